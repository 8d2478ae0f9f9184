theorem sg_X6_type_0 {T : Th} {M : Mm} {Q : Int32 → Mm → Prop} {x0 : Nat} {x1 : Int32} (h0 : isX6 T x0)
    (h : (x1 < 0 → Q (-1) M) ∧ (¬ x1 < 0 → (x1 ≤ 255 → WPi T mX4_add [.ref (x0 + 1), .int x1] M (fun v2 M1 => (v2 = 0 → Q (-3) M1) ∧ (¬ v2 = 0 → Q (M1.1 (x0 + 1) 1) M1))) ∧ (¬ x1 ≤ 255 → Q (-1) M))) :
    WP T mX6_type 0 [(0, .ref x0), (1, .int x1)] [] M (qi Q) := by
  refine WP.iload_n 1 (dg tX6_type 0 rfl) rfl rfl ?_
  refine WP.if_lt (tgt := 11) (dg tX6_type 1 rfl) (by decide) (fun z => ?_) (fun z => ?_)
  · replace h := h.1 z
    refine WP.iconst (v := (-1)) (dg tX6_type 5 rfl) (by decide) ?_
    exact WP.iret rfl (dg tX6_type 6 rfl) ⟨_, rfl, h⟩
  · replace h := h.2 z
    refine WP.iload_n 1 (dg tX6_type 2 rfl) rfl rfl ?_
    refine WP.sipush (v := 255) (dg tX6_type 3 rfl) (by decide) ?_
    refine WP.icmp_le (tgt := 13) (dg tX6_type 4 rfl) (by decide) (fun z => ?_) (fun z => ?_)
    · replace h := h.1 z
      refine WP.aload_n 0 (dg tX6_type 7 rfl) rfl rfl ?_
      refine WP.getF fX6_10 h0.1 (dg tX6_type 8 rfl) ?_
      refine WP.iload_n 1 (dg tX6_type 9 rfl) rfl rfl ?_
      refine WP.callVi (As := [.int x1]) (st := []) vX6_60 h0.2.1.1 rfl rfl ⟨Nat.le_of_ble_eq_true rfl, Nat.le_of_ble_eq_true rfl⟩ (Nat.le_of_ble_eq_true rfl) rfl (dg tX6_type 10 rfl) h (fun v2 M1 h => ?_)
      refine WP.if_eq (tgt := 34) (dg tX6_type 11 rfl) (by decide) (fun z => ?_) (fun z => ?_)
      · replace h := h.1 z
        refine WP.bipush (v := (-3)) (dg tX6_type 16 rfl) (by decide) ?_
        exact WP.iret rfl (dg tX6_type 17 rfl) ⟨_, rfl, h⟩
      · replace h := h.2 z
        refine WP.aload_n 0 (dg tX6_type 12 rfl) rfl rfl ?_
        refine WP.getF fX6_10 h0.1 (dg tX6_type 13 rfl) ?_
        refine WP.getI fX6_64 h0.2.1.1 (dg tX6_type 14 rfl) ?_
        refine WP.goto (tgt := 36) (dg tX6_type 15 rfl) (by decide) ?_
        exact WP.iret rfl (dg tX6_type 17 rfl) ⟨_, rfl, h⟩
    · replace h := h.2 z
      refine WP.iconst (v := (-1)) (dg tX6_type 5 rfl) (by decide) ?_
      exact WP.iret rfl (dg tX6_type 6 rfl) ⟨_, rfl, h⟩
theorem sg_X6_clear_0 {T : Th} {M : Mm} {Q : Int32 → Mm → Prop} {x0 : Nat} (h0 : isX6 T x0)
    (h : ∀ v1 : Int32, v1 = M.1 (x0 + 1) 1 → ∀ M2 : Mm, M2 = sI M (x0 + 1) 1 0 → Q v1 M2) :
    WP T mX6_clear 0 [(0, .ref x0)] [] M (qi Q) := by
  refine WP.aload_n 0 (dg tX6_clear 0 rfl) rfl rfl ?_
  refine WP.getF fX6_10 h0.1 (dg tX6_clear 1 rfl) ?_
  refine WP.getI fX6_64 h0.2.1.1 (dg tX6_clear 2 rfl) ?_
  refine WP.topi (fun v1 e_v1 => ?_)
  have h := h v1 e_v1
  refine WP.istore_n (L2 := [(1, .int v1), (0, .ref x0)]) (dg tX6_clear 3 rfl) rfl (by decide) rfl ?_
  refine WP.aload_n 1 (dg tX6_clear 4 rfl) rfl rfl ?_
  refine WP.getF fX6_10 h0.1 (dg tX6_clear 5 rfl) ?_
  refine WP.iconst (v := 0) (dg tX6_clear 6 rfl) (by decide) ?_
  refine WP.putI fX6_64 h0.2.1.1 (dg tX6_clear 7 rfl) (fun M2 e_M2 => ?_)
  have h := h M2 e_M2
  refine WP.iload_n 0 (dg tX6_clear 8 rfl) rfl rfl ?_
  exact WP.iret rfl (dg tX6_clear 9 rfl) ⟨_, rfl, h⟩
theorem sg_X6_world_0 {T : Th} {M : Mm} {Q : Int32 → Mm → Prop} {x0 : Nat} (h0 : isX6 T x0)
    (h : ∀ r1 : Nat, r1 = M.2.2 x0 8 → isX1 T r1 ∧ (WPv T mX1_reset [.ref r1] M (fun M2 => ∀ r3 : Nat, r3 = M2.2.2 x0 8 → isX1 T r3 ∧ (WPi T mX4_tell [.ref (x0 + 1), .ref r3] M2 (fun v5 M4 => (0 ≤ v5 → ∀ r6 : Nat, r6 = M4.2.2 x0 8 → isX1 T r6 ∧ (WPv T mX1_settle [.ref r6] M4 (fun M7 => ∀ r8 : Nat, r8 = M7.2.2 x0 7 → isX1 T r8 ∧ (∀ r9 : Nat, r9 = M7.2.2 x0 8 → isX1 T r9 ∧ (∀ M10 : Mm, M10 = sR M7 x0 7 r9 → ∀ M11 : Mm, M11 = sR M10 x0 8 r8 → ∀ M12 : Mm, M12 = sI M11 (x0 + 1) 1 0 → ∀ r13 : Nat, r13 = M12.2.2 x0 7 → isX1 T r13 ∧ (WPv T mX5_begin [.ref (x0 + 16), .ref (r13 + 6)] M12 (fun M14 => ∀ M15 : Mm, M15 = sI M14 (x0 + 84) 3 0 → ∀ M16 : Mm, M16 = sI M15 (x0 + 152) 3 0 → Q v5 M16))))))) ∧ (¬ 0 ≤ v5 → Q v5 M4)))))) :
    WP T mX6_world 0 [(0, .ref x0)] [] M (qi Q) := by
  refine WP.aload_n 0 (dg tX6_world 0 rfl) rfl rfl ?_
  refine WP.getR fX6_57 h0.1 (dg tX6_world 1 rfl) ?_
  refine WP.topr (fun r1 e_r1 => ?_)
  obtain ⟨o_r1, h⟩ := h r1 e_r1
  refine WP.callVv (As := []) (st := []) vX6_68 o_r1.1 rfl rfl ⟨Nat.le_of_ble_eq_true rfl, Nat.le_of_ble_eq_true rfl⟩ (Nat.le_of_ble_eq_true rfl) rfl (dg tX6_world 2 rfl) h (fun M2 h => ?_)
  refine WP.aload_n 0 (dg tX6_world 3 rfl) rfl rfl ?_
  refine WP.getF fX6_10 h0.1 (dg tX6_world 4 rfl) ?_
  refine WP.aload_n 0 (dg tX6_world 5 rfl) rfl rfl ?_
  refine WP.getR fX6_57 h0.1 (dg tX6_world 6 rfl) ?_
  refine WP.topr (fun r3 e_r3 => ?_)
  obtain ⟨o_r3, h⟩ := h r3 e_r3
  refine WP.callVi (As := [.ref r3]) (st := []) vX6_71 h0.2.1.1 rfl rfl ⟨Nat.le_of_ble_eq_true rfl, Nat.le_of_ble_eq_true rfl⟩ (Nat.le_of_ble_eq_true rfl) rfl (dg tX6_world 7 rfl) h (fun v5 M4 h => ?_)
  refine WP.istore_n (L2 := [(1, .int v5), (0, .ref x0)]) (dg tX6_world 8 rfl) rfl (by decide) rfl ?_
  refine WP.iload_n 0 (dg tX6_world 9 rfl) rfl rfl ?_
  refine WP.if_ge (tgt := 25) (dg tX6_world 10 rfl) (by decide) (fun z => ?_) (fun z => ?_)
  · replace h := h.1 z
    refine WP.aload_n 1 (dg tX6_world 13 rfl) rfl rfl ?_
    refine WP.getR fX6_57 h0.1 (dg tX6_world 14 rfl) ?_
    refine WP.topr (fun r6 e_r6 => ?_)
    obtain ⟨o_r6, h⟩ := h r6 e_r6
    refine WP.callVv (As := []) (st := []) vX6_75 o_r6.1 rfl rfl ⟨Nat.le_of_ble_eq_true rfl, Nat.le_of_ble_eq_true rfl⟩ (Nat.le_of_ble_eq_true rfl) rfl (dg tX6_world 15 rfl) h (fun M7 h => ?_)
    refine WP.aload_n 1 (dg tX6_world 16 rfl) rfl rfl ?_
    refine WP.getR fX6_53 h0.1 (dg tX6_world 17 rfl) ?_
    refine WP.topr (fun r8 e_r8 => ?_)
    obtain ⟨o_r8, h⟩ := h r8 e_r8
    refine WP.astore_n (L2 := [(2, .ref r8), (1, .int v5), (0, .ref x0)]) (dg tX6_world 18 rfl) rfl (by decide) rfl ?_
    refine WP.aload_n 2 (dg tX6_world 19 rfl) rfl rfl ?_
    refine WP.aload_n 2 (dg tX6_world 20 rfl) rfl rfl ?_
    refine WP.getR fX6_57 h0.1 (dg tX6_world 21 rfl) ?_
    refine WP.topr (fun r9 e_r9 => ?_)
    obtain ⟨o_r9, h⟩ := h r9 e_r9
    refine WP.putR fX6_53 h0.1 (dg tX6_world 22 rfl) (fun M10 e_M10 => ?_)
    have h := h M10 e_M10
    refine WP.aload_n 2 (dg tX6_world 23 rfl) rfl rfl ?_
    refine WP.aload_n 0 (dg tX6_world 24 rfl) rfl rfl ?_
    refine WP.putR fX6_57 h0.1 (dg tX6_world 25 rfl) (fun M11 e_M11 => ?_)
    have h := h M11 e_M11
    refine WP.aload_n 2 (dg tX6_world 26 rfl) rfl rfl ?_
    refine WP.getF fX6_10 h0.1 (dg tX6_world 27 rfl) ?_
    refine WP.iconst (v := 0) (dg tX6_world 28 rfl) (by decide) ?_
    refine WP.putI fX6_64 h0.2.1.1 (dg tX6_world 29 rfl) (fun M12 e_M12 => ?_)
    have h := h M12 e_M12
    refine WP.aload_n 2 (dg tX6_world 30 rfl) rfl rfl ?_
    refine WP.getF fX6_40 h0.1 (dg tX6_world 31 rfl) ?_
    refine WP.aload_n 2 (dg tX6_world 32 rfl) rfl rfl ?_
    refine WP.getR fX6_53 h0.1 (dg tX6_world 33 rfl) ?_
    refine WP.topr (fun r13 e_r13 => ?_)
    obtain ⟨o_r13, h⟩ := h r13 e_r13
    refine WP.getF fX6_78 o_r13.1 (dg tX6_world 34 rfl) ?_
    refine WP.callVv (As := [.ref (r13 + 6)]) (st := []) vX6_81 h0.2.2.2.2.2.1.1 rfl rfl ⟨Nat.le_of_ble_eq_true rfl, Nat.le_of_ble_eq_true rfl⟩ (Nat.le_of_ble_eq_true rfl) rfl (dg tX6_world 35 rfl) h (fun M14 h => ?_)
    refine WP.aload_n 2 (dg tX6_world 36 rfl) rfl rfl ?_
    refine WP.getF fX6_44 h0.1 (dg tX6_world 37 rfl) ?_
    refine WP.iconst (v := 0) (dg tX6_world 38 rfl) (by decide) ?_
    refine WP.putZ fX6_85 h0.2.2.2.2.2.2.1.1 (by decide) (dg tX6_world 39 rfl) (fun M15 e_M15 => ?_)
    have h := h M15 e_M15
    refine WP.aload_n 2 (dg tX6_world 40 rfl) rfl rfl ?_
    refine WP.getF fX6_47 h0.1 (dg tX6_world 41 rfl) ?_
    refine WP.iconst (v := 0) (dg tX6_world 42 rfl) (by decide) ?_
    refine WP.putZ fX6_85 h0.2.2.2.2.2.2.2.1 (by decide) (dg tX6_world 43 rfl) (fun M16 e_M16 => ?_)
    have h := h M16 e_M16
    refine WP.iload_n 1 (dg tX6_world 44 rfl) rfl rfl ?_
    exact WP.iret rfl (dg tX6_world 45 rfl) ⟨_, rfl, h⟩
  · replace h := h.2 z
    refine WP.iload_n 0 (dg tX6_world 11 rfl) rfl rfl ?_
    exact WP.iret rfl (dg tX6_world 12 rfl) ⟨_, rfl, h⟩
theorem sg_X6_place_0 {T : Th} {M : Mm} {Q : Int32 → Mm → Prop} {x0 : Nat} {x1 : Int32} {x2 : Int32} (h0 : isX6 T x0)
    (h : ∀ r1 : Nat, r1 = M.2.2 x0 7 → isX1 T r1 ∧ (WPi T mX1_hasPlace [.ref r1, .int x1] M (fun v3 M2 => (¬ v3 = 0 → (x2 = 0 → ∀ r4 : Nat, r4 = M2.2.2 x0 7 → isX1 T r4 ∧ (vp_in x1 12 ∧ (Q (M2.1 (r4 + 1) x1.toNatClampNeg) M2))) ∧ (x2 = 1 → ∀ r4 : Nat, r4 = M2.2.2 x0 7 → isX1 T r4 ∧ (Q (((M2.1 r4 5) >>> (x1 &&& 31)) &&& 1) M2)) ∧ (x2 = 2 → ∀ r4 : Nat, r4 = M2.2.2 x0 7 → isX1 T r4 ∧ ((¬ (M2.1 r4 4) = x1 → Q 0 M2) ∧ ((M2.1 r4 4) = x1 → Q 1 M2))) ∧ (¬ x2 = 0 ∧ ¬ x2 = 1 ∧ ¬ x2 = 2 → Q (-1) M2)) ∧ (v3 = 0 → Q (-1) M2)))) :
    WP T mX6_place 0 [(0, .ref x0), (1, .int x1), (2, .int x2)] [] M (qi Q) := by
  refine WP.aload_n 0 (dg tX6_place 0 rfl) rfl rfl ?_
  refine WP.getR fX6_53 h0.1 (dg tX6_place 1 rfl) ?_
  refine WP.topr (fun r1 e_r1 => ?_)
  obtain ⟨o_r1, h⟩ := h r1 e_r1
  refine WP.iload_n 1 (dg tX6_place 2 rfl) rfl rfl ?_
  refine WP.callVi (As := [.int x1]) (st := []) vX6_89 o_r1.1 rfl rfl ⟨Nat.le_of_ble_eq_true rfl, Nat.le_of_ble_eq_true rfl⟩ (Nat.le_of_ble_eq_true rfl) rfl (dg tX6_place 3 rfl) h (fun v3 M2 h => ?_)
  refine WP.if_ne (tgt := 13) (dg tX6_place 4 rfl) (by decide) (fun z => ?_) (fun z => ?_)
  · replace h := h.1 z
    refine WP.iload_n 2 (dg tX6_place 7 rfl) rfl rfl ?_
    rcases tabcase x2 0 3 with hq | ⟨k, hk, hq⟩
    · replace h := h.2.2.2 ⟨fun e => by rw [e] at hq; revert hq; decide, fun e => by rw [e] at hq; revert hq; decide, fun e => by rw [e] at hq; revert hq; decide⟩
      refine WP.tabOut (tgt := 79) (dg tX6_place 8 rfl) (by rcases hq with hq | hq <;> omega) (by decide) ?_
      refine WP.iconst (v := (-1)) (dg tX6_place 32 rfl) (by decide) ?_
      exact WP.iret rfl (dg tX6_place 33 rfl) ⟨_, rfl, h⟩
    · rcases (show k = 0 ∨ k = 1 ∨ k = 2 by omega) with rfl | rfl | rfl
      · have he : x2 = 0 := Int32.toInt_inj.mp (by rw [hq]; rfl)
        replace h := h.1 (he)
        refine WP.tabIn (off := 26) (tgt := 40) (dg tX6_place 8 rfl) (by omega) (by omega) (by rw [hq]; rfl) (by decide) ?_
        refine WP.aload_n 0 (dg tX6_place 9 rfl) rfl rfl ?_
        refine WP.getR fX6_53 h0.1 (dg tX6_place 10 rfl) ?_
        refine WP.topr (fun r4 e_r4 => ?_)
        obtain ⟨o_r4, h⟩ := h r4 e_r4
        refine WP.getF fX6_92 o_r4.1 (dg tX6_place 11 rfl) ?_
        refine WP.iload_n 1 (dg tX6_place 12 rfl) rfl rfl ?_
        obtain ⟨hb48, h⟩ := h
        refine WP.iald o_r4.2.1 hb48 (dg tX6_place 13 rfl) ?_
        exact WP.iret rfl (dg tX6_place 14 rfl) ⟨_, rfl, h⟩
      · have he : x2 = 1 := Int32.toInt_inj.mp (by rw [hq]; rfl)
        replace h := h.2.1 (he)
        refine WP.tabIn (off := 36) (tgt := 50) (dg tX6_place 8 rfl) (by omega) (by omega) (by rw [hq]; rfl) (by decide) ?_
        refine WP.aload_n 0 (dg tX6_place 15 rfl) rfl rfl ?_
        refine WP.getR fX6_53 h0.1 (dg tX6_place 16 rfl) ?_
        refine WP.topr (fun r4 e_r4 => ?_)
        obtain ⟨o_r4, h⟩ := h r4 e_r4
        refine WP.getI fX6_96 o_r4.1 (dg tX6_place 17 rfl) ?_
        refine WP.iload_n 1 (dg tX6_place 18 rfl) rfl rfl ?_
        refine WP.ishr (dg tX6_place 19 rfl) ?_
        refine WP.iconst (v := 1) (dg tX6_place 20 rfl) (by decide) ?_
        refine WP.iand (dg tX6_place 21 rfl) ?_
        exact WP.iret rfl (dg tX6_place 22 rfl) ⟨_, rfl, h⟩
      · have he : x2 = 2 := Int32.toInt_inj.mp (by rw [hq]; rfl)
        replace h := h.2.2.1 (he)
        refine WP.tabIn (off := 48) (tgt := 62) (dg tX6_place 8 rfl) (by omega) (by omega) (by rw [hq]; rfl) (by decide) ?_
        refine WP.aload_n 0 (dg tX6_place 23 rfl) rfl rfl ?_
        refine WP.getR fX6_53 h0.1 (dg tX6_place 24 rfl) ?_
        refine WP.topr (fun r4 e_r4 => ?_)
        obtain ⟨o_r4, h⟩ := h r4 e_r4
        refine WP.getI fX6_99 o_r4.1 (dg tX6_place 25 rfl) ?_
        refine WP.iload_n 1 (dg tX6_place 26 rfl) rfl rfl ?_
        refine WP.icmp_ne (tgt := 77) (dg tX6_place 27 rfl) (by decide) (fun z => ?_) (fun z => ?_)
        · replace h := h.1 z
          refine WP.iconst (v := 0) (dg tX6_place 30 rfl) (by decide) ?_
          exact WP.iret rfl (dg tX6_place 31 rfl) ⟨_, rfl, h⟩
        · replace h := h.2 z
          refine WP.iconst (v := 1) (dg tX6_place 28 rfl) (by decide) ?_
          refine WP.goto (tgt := 78) (dg tX6_place 29 rfl) (by decide) ?_
          exact WP.iret rfl (dg tX6_place 31 rfl) ⟨_, rfl, h⟩
  · replace h := h.2 z
    refine WP.iconst (v := (-1)) (dg tX6_place 5 rfl) (by decide) ?_
    exact WP.iret rfl (dg tX6_place 6 rfl) ⟨_, rfl, h⟩
theorem sg_X6_wagon_0 {T : Th} {M : Mm} {Q : Int32 → Mm → Prop} {x0 : Nat} {x1 : Int32} {x2 : Int32} (h0 : isX6 T x0)
    (h : ∀ r1 : Nat, r1 = M.2.2 x0 7 → isX1 T r1 ∧ (WPi T mX1_hasWagon [.ref r1, .int x1] M (fun v3 M2 => (¬ v3 = 0 → (x2 = 0 → vp_in x1 5 ∧ (Q (M2.1 (((x0 + 16) + 1) + 1) x1.toNatClampNeg) M2)) ∧ (x2 = 1 → ∀ r4 : Nat, r4 = M2.2.2 x0 7 → isX1 T r4 ∧ (vp_in x1 5 ∧ (Q (M2.1 (r4 + 2) x1.toNatClampNeg) M2))) ∧ (x2 = 2 → ∀ r4 : Nat, r4 = M2.2.2 x0 7 → isX1 T r4 ∧ (vp_in x1 5 ∧ (Q (M2.1 (r4 + 3) x1.toNatClampNeg) M2))) ∧ (x2 = 3 → vp_in x1 5 ∧ (Q (M2.1 (((x0 + 16) + 1) + 2) x1.toNatClampNeg) M2)) ∧ (x2 = 4 → vp_in x1 5 ∧ (Q (M2.1 (((x0 + 16) + 1) + 3) x1.toNatClampNeg) M2)) ∧ (x2 = 5 → vp_in x1 5 ∧ (Q (M2.1 (((x0 + 16) + 1) + 4) x1.toNatClampNeg) M2)) ∧ (x2 = 6 → vp_in x1 5 ∧ (Q (M2.1 (((x0 + 16) + 1) + 5) x1.toNatClampNeg) M2)) ∧ (x2 = 7 → WPi T mX2_isCaught [.ref ((x0 + 16) + 1), .int x1] M2 (fun v5 M4 => (v5 = 0 → Q 0 M4) ∧ (¬ v5 = 0 → Q 1 M4))) ∧ (¬ x2 = 0 ∧ ¬ x2 = 1 ∧ ¬ x2 = 2 ∧ ¬ x2 = 3 ∧ ¬ x2 = 4 ∧ ¬ x2 = 5 ∧ ¬ x2 = 6 ∧ ¬ x2 = 7 → Q (-1) M2)) ∧ (v3 = 0 → Q (-1) M2)))) :
    WP T mX6_wagon 0 [(0, .ref x0), (1, .int x1), (2, .int x2)] [] M (qi Q) := by
  refine WP.aload_n 0 (dg tX6_wagon 0 rfl) rfl rfl ?_
  refine WP.getR fX6_53 h0.1 (dg tX6_wagon 1 rfl) ?_
  refine WP.topr (fun r1 e_r1 => ?_)
  obtain ⟨o_r1, h⟩ := h r1 e_r1
  refine WP.iload_n 1 (dg tX6_wagon 2 rfl) rfl rfl ?_
  refine WP.callVi (As := [.int x1]) (st := []) vX6_102 o_r1.1 rfl rfl ⟨Nat.le_of_ble_eq_true rfl, Nat.le_of_ble_eq_true rfl⟩ (Nat.le_of_ble_eq_true rfl) rfl (dg tX6_wagon 3 rfl) h (fun v3 M2 h => ?_)
  refine WP.if_ne (tgt := 13) (dg tX6_wagon 4 rfl) (by decide) (fun z => ?_) (fun z => ?_)
  · replace h := h.1 z
    refine WP.aload_n 0 (dg tX6_wagon 7 rfl) rfl rfl ?_
    refine WP.getF fX6_40 h0.1 (dg tX6_wagon 8 rfl) ?_
    refine WP.getF fX6_105 h0.2.2.2.2.2.1.1 (dg tX6_wagon 9 rfl) ?_
    refine WP.astore_n (L2 := [(3, .ref ((x0 + 16) + 1)), (0, .ref x0), (1, .int x1), (2, .int x2)]) (dg tX6_wagon 10 rfl) rfl (by decide) rfl ?_
    refine WP.iload_n 3 (dg tX6_wagon 11 rfl) rfl rfl ?_
    rcases tabcase x2 0 8 with hq | ⟨k, hk, hq⟩
    · replace h := h.2.2.2.2.2.2.2.2 ⟨fun e => by rw [e] at hq; revert hq; decide, fun e => by rw [e] at hq; revert hq; decide, fun e => by rw [e] at hq; revert hq; decide, fun e => by rw [e] at hq; revert hq; decide, fun e => by rw [e] at hq; revert hq; decide, fun e => by rw [e] at hq; revert hq; decide, fun e => by rw [e] at hq; revert hq; decide, fun e => by rw [e] at hq; revert hq; decide⟩
      refine WP.tabOut (tgt := 137) (dg tX6_wagon 12 rfl) (by rcases hq with hq | hq <;> omega) (by decide) ?_
      refine WP.iconst (v := (-1)) (dg tX6_wagon 58 rfl) (by decide) ?_
      exact WP.iret rfl (dg tX6_wagon 59 rfl) ⟨_, rfl, h⟩
    · rcases (show k = 0 ∨ k = 1 ∨ k = 2 ∨ k = 3 ∨ k = 4 ∨ k = 5 ∨ k = 6 ∨ k = 7 by omega) with rfl | rfl | rfl | rfl | rfl | rfl | rfl | rfl
      · have he : x2 = 0 := Int32.toInt_inj.mp (by rw [hq]; rfl)
        replace h := h.1 (he)
        refine WP.tabIn (off := 46) (tgt := 68) (dg tX6_wagon 12 rfl) (by omega) (by omega) (by rw [hq]; rfl) (by decide) ?_
        refine WP.aload_n 0 (dg tX6_wagon 13 rfl) rfl rfl ?_
        refine WP.getF fX6_108 h0.2.2.2.2.2.1.2.1.1 (dg tX6_wagon 14 rfl) ?_
        refine WP.iload_n 2 (dg tX6_wagon 15 rfl) rfl rfl ?_
        obtain ⟨hb73, h⟩ := h
        refine WP.iald h0.2.2.2.2.2.1.2.1.2.1 hb73 (dg tX6_wagon 16 rfl) ?_
        exact WP.iret rfl (dg tX6_wagon 17 rfl) ⟨_, rfl, h⟩
      · have he : x2 = 1 := Int32.toInt_inj.mp (by rw [hq]; rfl)
        replace h := h.2.1 (he)
        refine WP.tabIn (off := 53) (tgt := 75) (dg tX6_wagon 12 rfl) (by omega) (by omega) (by rw [hq]; rfl) (by decide) ?_
        refine WP.aload_n 1 (dg tX6_wagon 18 rfl) rfl rfl ?_
        refine WP.getR fX6_53 h0.1 (dg tX6_wagon 19 rfl) ?_
        refine WP.topr (fun r4 e_r4 => ?_)
        obtain ⟨o_r4, h⟩ := h r4 e_r4
        refine WP.getF fX6_111 o_r4.1 (dg tX6_wagon 20 rfl) ?_
        refine WP.iload_n 2 (dg tX6_wagon 21 rfl) rfl rfl ?_
        obtain ⟨hb83, h⟩ := h
        refine WP.iald o_r4.2.2.1 hb83 (dg tX6_wagon 22 rfl) ?_
        exact WP.iret rfl (dg tX6_wagon 23 rfl) ⟨_, rfl, h⟩
      · have he : x2 = 2 := Int32.toInt_inj.mp (by rw [hq]; rfl)
        replace h := h.2.2.1 (he)
        refine WP.tabIn (off := 63) (tgt := 85) (dg tX6_wagon 12 rfl) (by omega) (by omega) (by rw [hq]; rfl) (by decide) ?_
        refine WP.aload_n 1 (dg tX6_wagon 24 rfl) rfl rfl ?_
        refine WP.getR fX6_53 h0.1 (dg tX6_wagon 25 rfl) ?_
        refine WP.topr (fun r4 e_r4 => ?_)
        obtain ⟨o_r4, h⟩ := h r4 e_r4
        refine WP.getF fX6_114 o_r4.1 (dg tX6_wagon 26 rfl) ?_
        refine WP.iload_n 2 (dg tX6_wagon 27 rfl) rfl rfl ?_
        obtain ⟨hb93, h⟩ := h
        refine WP.iald o_r4.2.2.2.1 hb93 (dg tX6_wagon 28 rfl) ?_
        exact WP.iret rfl (dg tX6_wagon 29 rfl) ⟨_, rfl, h⟩
      · have he : x2 = 3 := Int32.toInt_inj.mp (by rw [hq]; rfl)
        replace h := h.2.2.2.1 (he)
        refine WP.tabIn (off := 73) (tgt := 95) (dg tX6_wagon 12 rfl) (by omega) (by omega) (by rw [hq]; rfl) (by decide) ?_
        refine WP.aload_n 0 (dg tX6_wagon 30 rfl) rfl rfl ?_
        refine WP.getF fX6_117 h0.2.2.2.2.2.1.2.1.1 (dg tX6_wagon 31 rfl) ?_
        refine WP.iload_n 2 (dg tX6_wagon 32 rfl) rfl rfl ?_
        obtain ⟨hb100, h⟩ := h
        refine WP.iald h0.2.2.2.2.2.1.2.1.2.2.1 hb100 (dg tX6_wagon 33 rfl) ?_
        exact WP.iret rfl (dg tX6_wagon 34 rfl) ⟨_, rfl, h⟩
      · have he : x2 = 4 := Int32.toInt_inj.mp (by rw [hq]; rfl)
        replace h := h.2.2.2.2.1 (he)
        refine WP.tabIn (off := 80) (tgt := 102) (dg tX6_wagon 12 rfl) (by omega) (by omega) (by rw [hq]; rfl) (by decide) ?_
        refine WP.aload_n 0 (dg tX6_wagon 35 rfl) rfl rfl ?_
        refine WP.getF fX6_120 h0.2.2.2.2.2.1.2.1.1 (dg tX6_wagon 36 rfl) ?_
        refine WP.iload_n 2 (dg tX6_wagon 37 rfl) rfl rfl ?_
        obtain ⟨hb107, h⟩ := h
        refine WP.iald h0.2.2.2.2.2.1.2.1.2.2.2.1 hb107 (dg tX6_wagon 38 rfl) ?_
        exact WP.iret rfl (dg tX6_wagon 39 rfl) ⟨_, rfl, h⟩
      · have he : x2 = 5 := Int32.toInt_inj.mp (by rw [hq]; rfl)
        replace h := h.2.2.2.2.2.1 (he)
        refine WP.tabIn (off := 87) (tgt := 109) (dg tX6_wagon 12 rfl) (by omega) (by omega) (by rw [hq]; rfl) (by decide) ?_
        refine WP.aload_n 0 (dg tX6_wagon 40 rfl) rfl rfl ?_
        refine WP.getF fX6_123 h0.2.2.2.2.2.1.2.1.1 (dg tX6_wagon 41 rfl) ?_
        refine WP.iload_n 2 (dg tX6_wagon 42 rfl) rfl rfl ?_
        obtain ⟨hb114, h⟩ := h
        refine WP.iald h0.2.2.2.2.2.1.2.1.2.2.2.2.1 hb114 (dg tX6_wagon 43 rfl) ?_
        exact WP.iret rfl (dg tX6_wagon 44 rfl) ⟨_, rfl, h⟩
      · have he : x2 = 6 := Int32.toInt_inj.mp (by rw [hq]; rfl)
        replace h := h.2.2.2.2.2.2.1 (he)
        refine WP.tabIn (off := 94) (tgt := 116) (dg tX6_wagon 12 rfl) (by omega) (by omega) (by rw [hq]; rfl) (by decide) ?_
        refine WP.aload_n 0 (dg tX6_wagon 45 rfl) rfl rfl ?_
        refine WP.getF fX6_126 h0.2.2.2.2.2.1.2.1.1 (dg tX6_wagon 46 rfl) ?_
        refine WP.iload_n 2 (dg tX6_wagon 47 rfl) rfl rfl ?_
        obtain ⟨hb121, h⟩ := h
        refine WP.iald h0.2.2.2.2.2.1.2.1.2.2.2.2.2 hb121 (dg tX6_wagon 48 rfl) ?_
        exact WP.iret rfl (dg tX6_wagon 49 rfl) ⟨_, rfl, h⟩
      · have he : x2 = 7 := Int32.toInt_inj.mp (by rw [hq]; rfl)
        replace h := h.2.2.2.2.2.2.2.1 (he)
        refine WP.tabIn (off := 101) (tgt := 123) (dg tX6_wagon 12 rfl) (by omega) (by omega) (by rw [hq]; rfl) (by decide) ?_
        refine WP.aload_n 0 (dg tX6_wagon 50 rfl) rfl rfl ?_
        refine WP.iload_n 2 (dg tX6_wagon 51 rfl) rfl rfl ?_
        refine WP.callVi (As := [.int x1]) (st := []) vX6_129 h0.2.2.2.2.2.1.2.1.1 rfl rfl ⟨Nat.le_of_ble_eq_true rfl, Nat.le_of_ble_eq_true rfl⟩ (Nat.le_of_ble_eq_true rfl) rfl (dg tX6_wagon 52 rfl) h (fun v5 M4 h => ?_)
        refine WP.if_eq (tgt := 135) (dg tX6_wagon 53 rfl) (by decide) (fun z => ?_) (fun z => ?_)
        · replace h := h.1 z
          refine WP.iconst (v := 0) (dg tX6_wagon 56 rfl) (by decide) ?_
          exact WP.iret rfl (dg tX6_wagon 57 rfl) ⟨_, rfl, h⟩
        · replace h := h.2 z
          refine WP.iconst (v := 1) (dg tX6_wagon 54 rfl) (by decide) ?_
          refine WP.goto (tgt := 136) (dg tX6_wagon 55 rfl) (by decide) ?_
          exact WP.iret rfl (dg tX6_wagon 57 rfl) ⟨_, rfl, h⟩
  · replace h := h.2 z
    refine WP.iconst (v := (-1)) (dg tX6_wagon 5 rfl) (by decide) ?_
    exact WP.iret rfl (dg tX6_wagon 6 rfl) ⟨_, rfl, h⟩
theorem sg_X6_now_0 {T : Th} {M : Mm} {Q : Int32 → Mm → Prop} {x0 : Nat} {x1 : Int32} (h0 : isX6 T x0)
    (h : (x1 = 0 → Q (M.1 ((x0 + 16) + 1) 0) M) ∧ (x1 = 1 → ∀ r1 : Nat, r1 = M.2.2 x0 7 → isX1 T r1 ∧ (Q (M.1 r1 0) M)) ∧ (x1 = 2 → ∀ r1 : Nat, r1 = M.2.2 x0 7 → isX1 T r1 ∧ (Q (M.1 r1 1) M)) ∧ (x1 = 3 → ∀ r1 : Nat, r1 = M.2.2 x0 7 → isX1 T r1 ∧ (Q (M.1 r1 2) M)) ∧ (x1 = 4 → Q (M.1 ((x0 + 16) + 1) 1) M) ∧ (x1 = 5 → ∀ r1 : Nat, r1 = M.2.2 x0 7 → isX1 T r1 ∧ (WPi T mX1_withWorkDone [.ref r1, .ref ((x0 + 16) + 1)] M (fun v3 M2 => Q v3 M2))) ∧ (¬ x1 = 0 ∧ ¬ x1 = 1 ∧ ¬ x1 = 2 ∧ ¬ x1 = 3 ∧ ¬ x1 = 4 ∧ ¬ x1 = 5 → Q (-1) M)) :
    WP T mX6_now 0 [(0, .ref x0), (1, .int x1)] [] M (qi Q) := by
  refine WP.iload_n 1 (dg tX6_now 0 rfl) rfl rfl ?_
  rcases tabcase x1 0 6 with hq | ⟨k, hk, hq⟩
  · replace h := h.2.2.2.2.2.2 ⟨fun e => by rw [e] at hq; revert hq; decide, fun e => by rw [e] at hq; revert hq; decide, fun e => by rw [e] at hq; revert hq; decide, fun e => by rw [e] at hq; revert hq; decide, fun e => by rw [e] at hq; revert hq; decide, fun e => by rw [e] at hq; revert hq; decide⟩
    refine WP.tabOut (tgt := 101) (dg tX6_now 1 rfl) (by rcases hq with hq | hq <;> omega) (by decide) ?_
    refine WP.iconst (v := (-1)) (dg tX6_now 31 rfl) (by decide) ?_
    exact WP.iret rfl (dg tX6_now 32 rfl) ⟨_, rfl, h⟩
  · rcases (show k = 0 ∨ k = 1 ∨ k = 2 ∨ k = 3 ∨ k = 4 ∨ k = 5 by omega) with rfl | rfl | rfl | rfl | rfl | rfl
    · have he : x1 = 0 := Int32.toInt_inj.mp (by rw [hq]; rfl)
      replace h := h.1 (he)
      refine WP.tabIn (off := 39) (tgt := 40) (dg tX6_now 1 rfl) (by omega) (by omega) (by rw [hq]; rfl) (by decide) ?_
      refine WP.aload_n 0 (dg tX6_now 2 rfl) rfl rfl ?_
      refine WP.getF fX6_40 h0.1 (dg tX6_now 3 rfl) ?_
      refine WP.getF fX6_105 h0.2.2.2.2.2.1.1 (dg tX6_now 4 rfl) ?_
      refine WP.getI fX6_132 h0.2.2.2.2.2.1.2.1.1 (dg tX6_now 5 rfl) ?_
      exact WP.iret rfl (dg tX6_now 6 rfl) ⟨_, rfl, h⟩
    · have he : x1 = 1 := Int32.toInt_inj.mp (by rw [hq]; rfl)
      replace h := h.2.1 (he)
      refine WP.tabIn (off := 50) (tgt := 51) (dg tX6_now 1 rfl) (by omega) (by omega) (by rw [hq]; rfl) (by decide) ?_
      refine WP.aload_n 0 (dg tX6_now 7 rfl) rfl rfl ?_
      refine WP.getR fX6_53 h0.1 (dg tX6_now 8 rfl) ?_
      refine WP.topr (fun r1 e_r1 => ?_)
      obtain ⟨o_r1, h⟩ := h r1 e_r1
      refine WP.getI fX6_135 o_r1.1 (dg tX6_now 9 rfl) ?_
      exact WP.iret rfl (dg tX6_now 10 rfl) ⟨_, rfl, h⟩
    · have he : x1 = 2 := Int32.toInt_inj.mp (by rw [hq]; rfl)
      replace h := h.2.2.1 (he)
      refine WP.tabIn (off := 58) (tgt := 59) (dg tX6_now 1 rfl) (by omega) (by omega) (by rw [hq]; rfl) (by decide) ?_
      refine WP.aload_n 0 (dg tX6_now 11 rfl) rfl rfl ?_
      refine WP.getR fX6_53 h0.1 (dg tX6_now 12 rfl) ?_
      refine WP.topr (fun r1 e_r1 => ?_)
      obtain ⟨o_r1, h⟩ := h r1 e_r1
      refine WP.getI fX6_138 o_r1.1 (dg tX6_now 13 rfl) ?_
      exact WP.iret rfl (dg tX6_now 14 rfl) ⟨_, rfl, h⟩
    · have he : x1 = 3 := Int32.toInt_inj.mp (by rw [hq]; rfl)
      replace h := h.2.2.2.1 (he)
      refine WP.tabIn (off := 66) (tgt := 67) (dg tX6_now 1 rfl) (by omega) (by omega) (by rw [hq]; rfl) (by decide) ?_
      refine WP.aload_n 0 (dg tX6_now 15 rfl) rfl rfl ?_
      refine WP.getR fX6_53 h0.1 (dg tX6_now 16 rfl) ?_
      refine WP.topr (fun r1 e_r1 => ?_)
      obtain ⟨o_r1, h⟩ := h r1 e_r1
      refine WP.getI fX6_141 o_r1.1 (dg tX6_now 17 rfl) ?_
      exact WP.iret rfl (dg tX6_now 18 rfl) ⟨_, rfl, h⟩
    · have he : x1 = 4 := Int32.toInt_inj.mp (by rw [hq]; rfl)
      replace h := h.2.2.2.2.1 (he)
      refine WP.tabIn (off := 74) (tgt := 75) (dg tX6_now 1 rfl) (by omega) (by omega) (by rw [hq]; rfl) (by decide) ?_
      refine WP.aload_n 0 (dg tX6_now 19 rfl) rfl rfl ?_
      refine WP.getF fX6_40 h0.1 (dg tX6_now 20 rfl) ?_
      refine WP.getF fX6_105 h0.2.2.2.2.2.1.1 (dg tX6_now 21 rfl) ?_
      refine WP.getI fX6_144 h0.2.2.2.2.2.1.2.1.1 (dg tX6_now 22 rfl) ?_
      exact WP.iret rfl (dg tX6_now 23 rfl) ⟨_, rfl, h⟩
    · have he : x1 = 5 := Int32.toInt_inj.mp (by rw [hq]; rfl)
      replace h := h.2.2.2.2.2.1 (he)
      refine WP.tabIn (off := 85) (tgt := 86) (dg tX6_now 1 rfl) (by omega) (by omega) (by rw [hq]; rfl) (by decide) ?_
      refine WP.aload_n 0 (dg tX6_now 24 rfl) rfl rfl ?_
      refine WP.getR fX6_53 h0.1 (dg tX6_now 25 rfl) ?_
      refine WP.topr (fun r1 e_r1 => ?_)
      obtain ⟨o_r1, h⟩ := h r1 e_r1
      refine WP.aload_n 0 (dg tX6_now 26 rfl) rfl rfl ?_
      refine WP.getF fX6_40 h0.1 (dg tX6_now 27 rfl) ?_
      refine WP.getF fX6_105 h0.2.2.2.2.2.1.1 (dg tX6_now 28 rfl) ?_
      refine WP.callVi (As := [.ref ((x0 + 16) + 1)]) (st := []) vX6_147 o_r1.1 rfl rfl ⟨Nat.le_of_ble_eq_true rfl, Nat.le_of_ble_eq_true rfl⟩ (Nat.le_of_ble_eq_true rfl) rfl (dg tX6_now 29 rfl) h (fun v3 M2 h => ?_)
      exact WP.iret rfl (dg tX6_now 30 rfl) ⟨_, rfl, h⟩
theorem sg_X6_sun_0 {T : Th} {M : Mm} {Q : Int32 → Mm → Prop} {x0 : Nat} {x1 : Int32} (h0 : isX6 T x0)
    (h : (x1 < 0 → Q (-1000000) M) ∧ (¬ x1 < 0 → (x1 ≤ 1100 → ∀ r1 : Nat, r1 = M.2.2 x0 7 → isX1 T r1 ∧ (∀ r2 : Nat, r2 = M.2.2 x0 7 → isX1 T r2 ∧ (WPi T mX1_sunWay [.ref r1, .int x1, .int (M.1 r2 2)] M (fun v4 M3 => Q v4 M3)))) ∧ (¬ x1 ≤ 1100 → Q (-1000000) M))) :
    WP T mX6_sun 0 [(0, .ref x0), (1, .int x1)] [] M (qi Q) := by
  refine WP.iload_n 1 (dg tX6_sun 0 rfl) rfl rfl ?_
  refine WP.if_lt (tgt := 11) (dg tX6_sun 1 rfl) (by decide) (fun z => ?_) (fun z => ?_)
  · replace h := h.1 z
    refine WP.ldc (v := (-1000000)) kX6_151 (dg tX6_sun 5 rfl) ?_
    refine WP.goto (tgt := 31) (dg tX6_sun 6 rfl) (by decide) ?_
    exact WP.iret rfl (dg tX6_sun 14 rfl) ⟨_, rfl, h⟩
  · replace h := h.2 z
    refine WP.iload_n 1 (dg tX6_sun 2 rfl) rfl rfl ?_
    refine WP.sipush (v := 1100) (dg tX6_sun 3 rfl) (by decide) ?_
    refine WP.icmp_le (tgt := 16) (dg tX6_sun 4 rfl) (by decide) (fun z => ?_) (fun z => ?_)
    · replace h := h.1 z
      refine WP.aload_n 0 (dg tX6_sun 7 rfl) rfl rfl ?_
      refine WP.getR fX6_53 h0.1 (dg tX6_sun 8 rfl) ?_
      refine WP.topr (fun r1 e_r1 => ?_)
      obtain ⟨o_r1, h⟩ := h r1 e_r1
      refine WP.iload_n 1 (dg tX6_sun 9 rfl) rfl rfl ?_
      refine WP.aload_n 0 (dg tX6_sun 10 rfl) rfl rfl ?_
      refine WP.getR fX6_53 h0.1 (dg tX6_sun 11 rfl) ?_
      refine WP.topr (fun r2 e_r2 => ?_)
      obtain ⟨o_r2, h⟩ := h r2 e_r2
      refine WP.getI fX6_141 o_r2.1 (dg tX6_sun 12 rfl) ?_
      refine WP.callVi (As := [.int x1, .int (M.1 r2 2)]) (st := []) vX6_152 o_r1.1 rfl rfl ⟨Nat.le_of_ble_eq_true rfl, Nat.le_of_ble_eq_true rfl⟩ (Nat.le_of_ble_eq_true rfl) rfl (dg tX6_sun 13 rfl) h (fun v4 M3 h => ?_)
      exact WP.iret rfl (dg tX6_sun 14 rfl) ⟨_, rfl, h⟩
    · replace h := h.2 z
      refine WP.ldc (v := (-1000000)) kX6_151 (dg tX6_sun 5 rfl) ?_
      refine WP.goto (tgt := 31) (dg tX6_sun 6 rfl) (by decide) ?_
      exact WP.iret rfl (dg tX6_sun 14 rfl) ⟨_, rfl, h⟩
theorem sg_X6_minute_0 {T : Th} {M : Mm} {Q : Int32 → Mm → Prop} {x0 : Nat} (h0 : isX6 T x0)
    (h : ((M.1 ((x0 + 16) + 1) 0) < 999 → WPv T mX5_remember [.ref (x0 + 16)] M (fun M1 => ∀ r2 : Nat, r2 = M1.2.2 x0 7 → isX1 T r2 ∧ (WPi T mX1_pass [.ref r2, .ref ((x0 + 16) + 1)] M1 (fun v4 M3 => WPi T mJ6_bitCount_0f7a4 [.int (M3.1 ((x0 + 16) + 1) 1)] M3 (fun v6 M5 => Q v6 M5))))) ∧ (¬ (M.1 ((x0 + 16) + 1) 0) < 999 → Q (-2) M)) :
    WP T mX6_minute 0 [(0, .ref x0)] [] M (qi Q) := by
  refine WP.aload_n 0 (dg tX6_minute 0 rfl) rfl rfl ?_
  refine WP.getF fX6_40 h0.1 (dg tX6_minute 1 rfl) ?_
  refine WP.getF fX6_105 h0.2.2.2.2.2.1.1 (dg tX6_minute 2 rfl) ?_
  refine WP.getI fX6_132 h0.2.2.2.2.2.1.2.1.1 (dg tX6_minute 3 rfl) ?_
  refine WP.sipush (v := 999) (dg tX6_minute 4 rfl) (by decide) ?_
  refine WP.icmp_lt (tgt := 19) (dg tX6_minute 5 rfl) (by decide) (fun z => ?_) (fun z => ?_)
  · replace h := h.1 z
    refine WP.aload_n 0 (dg tX6_minute 8 rfl) rfl rfl ?_
    refine WP.getF fX6_40 h0.1 (dg tX6_minute 9 rfl) ?_
    refine WP.callVv (As := []) (st := []) vX6_156 h0.2.2.2.2.2.1.1 rfl rfl ⟨Nat.le_of_ble_eq_true rfl, Nat.le_of_ble_eq_true rfl⟩ (Nat.le_of_ble_eq_true rfl) rfl (dg tX6_minute 10 rfl) h (fun M1 h => ?_)
    refine WP.aload_n 0 (dg tX6_minute 11 rfl) rfl rfl ?_
    refine WP.getR fX6_53 h0.1 (dg tX6_minute 12 rfl) ?_
    refine WP.topr (fun r2 e_r2 => ?_)
    obtain ⟨o_r2, h⟩ := h r2 e_r2
    refine WP.aload_n 0 (dg tX6_minute 13 rfl) rfl rfl ?_
    refine WP.getF fX6_40 h0.1 (dg tX6_minute 14 rfl) ?_
    refine WP.getF fX6_105 h0.2.2.2.2.2.1.1 (dg tX6_minute 15 rfl) ?_
    refine WP.callVi (As := [.ref ((x0 + 16) + 1)]) (st := []) vX6_159 o_r2.1 rfl rfl ⟨Nat.le_of_ble_eq_true rfl, Nat.le_of_ble_eq_true rfl⟩ (Nat.le_of_ble_eq_true rfl) rfl (dg tX6_minute 16 rfl) h (fun v4 M3 h => ?_)
    refine WP.pop (dg tX6_minute 17 rfl) rfl ?_
    refine WP.aload_n 0 (dg tX6_minute 18 rfl) rfl rfl ?_
    refine WP.getF fX6_40 h0.1 (dg tX6_minute 19 rfl) ?_
    refine WP.getF fX6_105 h0.2.2.2.2.2.1.1 (dg tX6_minute 20 rfl) ?_
    refine WP.getI fX6_144 h0.2.2.2.2.2.1.2.1.1 (dg tX6_minute 21 rfl) ?_
    refine WP.callSi (As := [.int (M3.1 ((x0 + 16) + 1) 1)]) (st := []) vX6_162 rfl ⟨Nat.le_of_ble_eq_true rfl, Nat.le_of_ble_eq_true rfl⟩ (Nat.le_of_ble_eq_true rfl) rfl (dg tX6_minute 22 rfl) h (fun v6 M5 h => ?_)
    exact WP.iret rfl (dg tX6_minute 23 rfl) ⟨_, rfl, h⟩
  · replace h := h.2 z
    refine WP.bipush (v := (-2)) (dg tX6_minute 6 rfl) (by decide) ?_
    exact WP.iret rfl (dg tX6_minute 7 rfl) ⟨_, rfl, h⟩
theorem sg_X6_stand_0 {T : Th} {M : Mm} {Q : Int32 → Mm → Prop} {x0 : Nat} {x1 : Int32} {x2 : Int32} (h0 : isX6 T x0)
    (h : ∀ r1 : Nat, r1 = M.2.2 x0 7 → isX1 T r1 ∧ (WPi T mX1_hasWagon [.ref r1, .int x1] M (fun v3 M2 => (v3 = 0 → Q (-1) M2) ∧ (¬ v3 = 0 → (x2 < 1 → Q (-1) M2) ∧ (¬ x2 < 1 → (x2 ≤ 30 → WPi T mX2_isCaught [.ref ((x0 + 16) + 1), .int x1] M2 (fun v5 M4 => (¬ v5 = 0 → Q (-2) M4) ∧ (v5 = 0 → vp_in x1 5 ∧ ((((M4.1 (((x0 + 16) + 1) + 4) x1.toNatClampNeg) + x2) ≤ 99 → WPv T mX5_remember [.ref (x0 + 16)] M4 (fun M6 => vp_in x1 5 ∧ (vp_in x1 5 ∧ (∀ M7 : Mm, M7 = sI M6 (((x0 + 16) + 1) + 4) x1.toNatClampNeg ((M6.1 (((x0 + 16) + 1) + 4) x1.toNatClampNeg) + x2) → vp_in x1 5 ∧ (Q (M7.1 (((x0 + 16) + 1) + 4) x1.toNatClampNeg) M7))))) ∧ (¬ ((M4.1 (((x0 + 16) + 1) + 4) x1.toNatClampNeg) + x2) ≤ 99 → Q (-2) M4))))) ∧ (¬ x2 ≤ 30 → Q (-1) M2)))))) :
    WP T mX6_stand 0 [(0, .ref x0), (1, .int x1), (2, .int x2)] [] M (qi Q) := by
  refine WP.aload_n 0 (dg tX6_stand 0 rfl) rfl rfl ?_
  refine WP.getR fX6_53 h0.1 (dg tX6_stand 1 rfl) ?_
  refine WP.topr (fun r1 e_r1 => ?_)
  obtain ⟨o_r1, h⟩ := h r1 e_r1
  refine WP.iload_n 1 (dg tX6_stand 2 rfl) rfl rfl ?_
  refine WP.callVi (As := [.int x1]) (st := []) vX6_102 o_r1.1 rfl rfl ⟨Nat.le_of_ble_eq_true rfl, Nat.le_of_ble_eq_true rfl⟩ (Nat.le_of_ble_eq_true rfl) rfl (dg tX6_stand 3 rfl) h (fun v3 M2 h => ?_)
  refine WP.if_eq (tgt := 22) (dg tX6_stand 4 rfl) (by decide) (fun z => ?_) (fun z => ?_)
  · replace h := h.1 z
    refine WP.iconst (v := (-1)) (dg tX6_stand 11 rfl) (by decide) ?_
    exact WP.iret rfl (dg tX6_stand 12 rfl) ⟨_, rfl, h⟩
  · replace h := h.2 z
    refine WP.iload_n 2 (dg tX6_stand 5 rfl) rfl rfl ?_
    refine WP.iconst (v := 1) (dg tX6_stand 6 rfl) (by decide) ?_
    refine WP.icmp_lt (tgt := 22) (dg tX6_stand 7 rfl) (by decide) (fun z => ?_) (fun z => ?_)
    · replace h := h.1 z
      refine WP.iconst (v := (-1)) (dg tX6_stand 11 rfl) (by decide) ?_
      exact WP.iret rfl (dg tX6_stand 12 rfl) ⟨_, rfl, h⟩
    · replace h := h.2 z
      refine WP.iload_n 2 (dg tX6_stand 8 rfl) rfl rfl ?_
      refine WP.bipush (v := 30) (dg tX6_stand 9 rfl) (by decide) ?_
      refine WP.icmp_le (tgt := 24) (dg tX6_stand 10 rfl) (by decide) (fun z => ?_) (fun z => ?_)
      · replace h := h.1 z
        refine WP.aload_n 0 (dg tX6_stand 13 rfl) rfl rfl ?_
        refine WP.getF fX6_40 h0.1 (dg tX6_stand 14 rfl) ?_
        refine WP.getF fX6_105 h0.2.2.2.2.2.1.1 (dg tX6_stand 15 rfl) ?_
        refine WP.astore_n (L2 := [(3, .ref ((x0 + 16) + 1)), (0, .ref x0), (1, .int x1), (2, .int x2)]) (dg tX6_stand 16 rfl) rfl (by decide) rfl ?_
        refine WP.aload_n 0 (dg tX6_stand 17 rfl) rfl rfl ?_
        refine WP.iload_n 2 (dg tX6_stand 18 rfl) rfl rfl ?_
        refine WP.callVi (As := [.int x1]) (st := []) vX6_129 h0.2.2.2.2.2.1.2.1.1 rfl rfl ⟨Nat.le_of_ble_eq_true rfl, Nat.le_of_ble_eq_true rfl⟩ (Nat.le_of_ble_eq_true rfl) rfl (dg tX6_stand 19 rfl) h (fun v5 M4 h => ?_)
        refine WP.if_ne (tgt := 53) (dg tX6_stand 20 rfl) (by decide) (fun z => ?_) (fun z => ?_)
        · replace h := h.1 z
          refine WP.bipush (v := (-2)) (dg tX6_stand 29 rfl) (by decide) ?_
          exact WP.iret rfl (dg tX6_stand 30 rfl) ⟨_, rfl, h⟩
        · replace h := h.2 z
          refine WP.aload_n 0 (dg tX6_stand 21 rfl) rfl rfl ?_
          refine WP.getF fX6_123 h0.2.2.2.2.2.1.2.1.1 (dg tX6_stand 22 rfl) ?_
          refine WP.iload_n 2 (dg tX6_stand 23 rfl) rfl rfl ?_
          obtain ⟨hb45, h⟩ := h
          refine WP.iald h0.2.2.2.2.2.1.2.1.2.2.2.2.1 hb45 (dg tX6_stand 24 rfl) ?_
          refine WP.iload_n 3 (dg tX6_stand 25 rfl) rfl rfl ?_
          refine WP.iadd (dg tX6_stand 26 rfl) ?_
          refine WP.bipush (v := 99) (dg tX6_stand 27 rfl) (by decide) ?_
          refine WP.icmp_le (tgt := 56) (dg tX6_stand 28 rfl) (by decide) (fun z => ?_) (fun z => ?_)
          · replace h := h.1 z
            refine WP.aload_n 1 (dg tX6_stand 31 rfl) rfl rfl ?_
            refine WP.getF fX6_40 h0.1 (dg tX6_stand 32 rfl) ?_
            refine WP.callVv (As := []) (st := []) vX6_156 h0.2.2.2.2.2.1.1 rfl rfl ⟨Nat.le_of_ble_eq_true rfl, Nat.le_of_ble_eq_true rfl⟩ (Nat.le_of_ble_eq_true rfl) rfl (dg tX6_stand 33 rfl) h (fun M6 h => ?_)
            refine WP.aload_n 0 (dg tX6_stand 34 rfl) rfl rfl ?_
            refine WP.getF fX6_123 h0.2.2.2.2.2.1.2.1.1 (dg tX6_stand 35 rfl) ?_
            refine WP.iload_n 2 (dg tX6_stand 36 rfl) rfl rfl ?_
            refine WP.dup2 (dg tX6_stand 37 rfl) rfl rfl ?_
            obtain ⟨hb69, h⟩ := h
            refine WP.iald h0.2.2.2.2.2.1.2.1.2.2.2.2.1 hb69 (dg tX6_stand 38 rfl) ?_
            refine WP.iload_n 3 (dg tX6_stand 39 rfl) rfl rfl ?_
            refine WP.iadd (dg tX6_stand 40 rfl) ?_
            obtain ⟨hb72, h⟩ := h
            refine WP.iast h0.2.2.2.2.2.1.2.1.2.2.2.2.1 hb72 (dg tX6_stand 41 rfl) (fun M7 e_M7 => ?_)
            have h := h M7 e_M7
            refine WP.aload_n 0 (dg tX6_stand 42 rfl) rfl rfl ?_
            refine WP.getF fX6_123 h0.2.2.2.2.2.1.2.1.1 (dg tX6_stand 43 rfl) ?_
            refine WP.iload_n 2 (dg tX6_stand 44 rfl) rfl rfl ?_
            obtain ⟨hb78, h⟩ := h
            refine WP.iald h0.2.2.2.2.2.1.2.1.2.2.2.2.1 hb78 (dg tX6_stand 45 rfl) ?_
            exact WP.iret rfl (dg tX6_stand 46 rfl) ⟨_, rfl, h⟩
          · replace h := h.2 z
            refine WP.bipush (v := (-2)) (dg tX6_stand 29 rfl) (by decide) ?_
            exact WP.iret rfl (dg tX6_stand 30 rfl) ⟨_, rfl, h⟩
      · replace h := h.2 z
        refine WP.iconst (v := (-1)) (dg tX6_stand 11 rfl) (by decide) ?_
        exact WP.iret rfl (dg tX6_stand 12 rfl) ⟨_, rfl, h⟩
theorem sg_X6_change_0 {T : Th} {M : Mm} {Q : Int32 → Mm → Prop} {x0 : Nat} {x1 : Int32} {x2 : Int32} (h0 : isX6 T x0)
    (h : ∀ r1 : Nat, r1 = M.2.2 x0 7 → isX1 T r1 ∧ (WPi T mX1_hasWagon [.ref r1, .int x1] M (fun v3 M2 => (v3 = 0 → Q (-1) M2) ∧ (¬ v3 = 0 → (x2 < 0 → Q (-1) M2) ∧ (¬ x2 < 0 → (x2 ≤ 2 → WPi T mX2_isCaught [.ref ((x0 + 16) + 1), .int x1] M2 (fun v5 M4 => (¬ v5 = 0 → Q (-2) M4) ∧ (v5 = 0 → ∀ r6 : Nat, r6 = M4.2.2 x0 7 → isX1 T r6 ∧ (vp_in x1 5 ∧ (WPi T mX1_hasPoints [.ref r6, .int (M4.1 (((x0 + 16) + 1) + 1) x1.toNatClampNeg)] M4 (fun v8 M7 => (v8 = 0 → Q (-2) M7) ∧ (¬ v8 = 0 → ∀ r9 : Nat, r9 = M7.2.2 x0 7 → isX1 T r9 ∧ (vp_in x1 5 ∧ (WPi T mX1_isTaken [.ref r9, .ref ((x0 + 16) + 1), .int x2, .int (M7.1 (((x0 + 16) + 1) + 1) x1.toNatClampNeg)] M7 (fun v11 M10 => (v11 = 0 → WPv T mX5_remember [.ref (x0 + 16)] M10 (fun M12 => vp_in x1 5 ∧ (∀ v13 : Int32, v13 = M12.1 (((x0 + 16) + 1) + 2) x1.toNatClampNeg → vp_in x1 5 ∧ (∀ M14 : Mm, M14 = sI M12 (((x0 + 16) + 1) + 2) x1.toNatClampNeg x2 → Q v13 M14)))) ∧ (¬ v11 = 0 → Q (-2) M10))))))))))) ∧ (¬ x2 ≤ 2 → Q (-1) M2)))))) :
    WP T mX6_change 0 [(0, .ref x0), (1, .int x1), (2, .int x2)] [] M (qi Q) := by
  refine WP.aload_n 0 (dg tX6_change 0 rfl) rfl rfl ?_
  refine WP.getR fX6_53 h0.1 (dg tX6_change 1 rfl) ?_
  refine WP.topr (fun r1 e_r1 => ?_)
  obtain ⟨o_r1, h⟩ := h r1 e_r1
  refine WP.iload_n 1 (dg tX6_change 2 rfl) rfl rfl ?_
  refine WP.callVi (As := [.int x1]) (st := []) vX6_102 o_r1.1 rfl rfl ⟨Nat.le_of_ble_eq_true rfl, Nat.le_of_ble_eq_true rfl⟩ (Nat.le_of_ble_eq_true rfl) rfl (dg tX6_change 3 rfl) h (fun v3 M2 h => ?_)
  refine WP.if_eq (tgt := 20) (dg tX6_change 4 rfl) (by decide) (fun z => ?_) (fun z => ?_)
  · replace h := h.1 z
    refine WP.iconst (v := (-1)) (dg tX6_change 10 rfl) (by decide) ?_
    exact WP.iret rfl (dg tX6_change 11 rfl) ⟨_, rfl, h⟩
  · replace h := h.2 z
    refine WP.iload_n 2 (dg tX6_change 5 rfl) rfl rfl ?_
    refine WP.if_lt (tgt := 20) (dg tX6_change 6 rfl) (by decide) (fun z => ?_) (fun z => ?_)
    · replace h := h.1 z
      refine WP.iconst (v := (-1)) (dg tX6_change 10 rfl) (by decide) ?_
      exact WP.iret rfl (dg tX6_change 11 rfl) ⟨_, rfl, h⟩
    · replace h := h.2 z
      refine WP.iload_n 2 (dg tX6_change 7 rfl) rfl rfl ?_
      refine WP.iconst (v := 2) (dg tX6_change 8 rfl) (by decide) ?_
      refine WP.icmp_le (tgt := 22) (dg tX6_change 9 rfl) (by decide) (fun z => ?_) (fun z => ?_)
      · replace h := h.1 z
        refine WP.aload_n 0 (dg tX6_change 12 rfl) rfl rfl ?_
        refine WP.getF fX6_40 h0.1 (dg tX6_change 13 rfl) ?_
        refine WP.getF fX6_105 h0.2.2.2.2.2.1.1 (dg tX6_change 14 rfl) ?_
        refine WP.astore_n (L2 := [(3, .ref ((x0 + 16) + 1)), (0, .ref x0), (1, .int x1), (2, .int x2)]) (dg tX6_change 15 rfl) rfl (by decide) rfl ?_
        refine WP.aload_n 0 (dg tX6_change 16 rfl) rfl rfl ?_
        refine WP.iload_n 2 (dg tX6_change 17 rfl) rfl rfl ?_
        refine WP.callVi (As := [.int x1]) (st := []) vX6_129 h0.2.2.2.2.2.1.2.1.1 rfl rfl ⟨Nat.le_of_ble_eq_true rfl, Nat.le_of_ble_eq_true rfl⟩ (Nat.le_of_ble_eq_true rfl) rfl (dg tX6_change 18 rfl) h (fun v5 M4 h => ?_)
        refine WP.if_ne (tgt := 72) (dg tX6_change 19 rfl) (by decide) (fun z => ?_) (fun z => ?_)
        · replace h := h.1 z
          refine WP.bipush (v := (-2)) (dg tX6_change 38 rfl) (by decide) ?_
          exact WP.iret rfl (dg tX6_change 39 rfl) ⟨_, rfl, h⟩
        · replace h := h.2 z
          refine WP.aload_n 1 (dg tX6_change 20 rfl) rfl rfl ?_
          refine WP.getR fX6_53 h0.1 (dg tX6_change 21 rfl) ?_
          refine WP.topr (fun r6 e_r6 => ?_)
          obtain ⟨o_r6, h⟩ := h r6 e_r6
          refine WP.aload_n 0 (dg tX6_change 22 rfl) rfl rfl ?_
          refine WP.getF fX6_108 h0.2.2.2.2.2.1.2.1.1 (dg tX6_change 23 rfl) ?_
          refine WP.iload_n 2 (dg tX6_change 24 rfl) rfl rfl ?_
          obtain ⟨hb47, h⟩ := h
          refine WP.iald h0.2.2.2.2.2.1.2.1.2.1 hb47 (dg tX6_change 25 rfl) ?_
          refine WP.callVi (As := [.int (M4.1 (((x0 + 16) + 1) + 1) x1.toNatClampNeg)]) (st := []) vX6_168 o_r6.1 rfl rfl ⟨Nat.le_of_ble_eq_true rfl, Nat.le_of_ble_eq_true rfl⟩ (Nat.le_of_ble_eq_true rfl) rfl (dg tX6_change 26 rfl) h (fun v8 M7 h => ?_)
          refine WP.if_eq (tgt := 72) (dg tX6_change 27 rfl) (by decide) (fun z => ?_) (fun z => ?_)
          · replace h := h.1 z
            refine WP.bipush (v := (-2)) (dg tX6_change 38 rfl) (by decide) ?_
            exact WP.iret rfl (dg tX6_change 39 rfl) ⟨_, rfl, h⟩
          · replace h := h.2 z
            refine WP.aload_n 1 (dg tX6_change 28 rfl) rfl rfl ?_
            refine WP.getR fX6_53 h0.1 (dg tX6_change 29 rfl) ?_
            refine WP.topr (fun r9 e_r9 => ?_)
            obtain ⟨o_r9, h⟩ := h r9 e_r9
            refine WP.aload_n 0 (dg tX6_change 30 rfl) rfl rfl ?_
            refine WP.iload_n 3 (dg tX6_change 31 rfl) rfl rfl ?_
            refine WP.aload_n 0 (dg tX6_change 32 rfl) rfl rfl ?_
            refine WP.getF fX6_108 h0.2.2.2.2.2.1.2.1.1 (dg tX6_change 33 rfl) ?_
            refine WP.iload_n 2 (dg tX6_change 34 rfl) rfl rfl ?_
            obtain ⟨hb65, h⟩ := h
            refine WP.iald h0.2.2.2.2.2.1.2.1.2.1 hb65 (dg tX6_change 35 rfl) ?_
            refine WP.callVi (As := [.ref ((x0 + 16) + 1), .int x2, .int (M7.1 (((x0 + 16) + 1) + 1) x1.toNatClampNeg)]) (st := []) vX6_171 o_r9.1 rfl rfl ⟨Nat.le_of_ble_eq_true rfl, Nat.le_of_ble_eq_true rfl⟩ (Nat.le_of_ble_eq_true rfl) rfl (dg tX6_change 36 rfl) h (fun v11 M10 h => ?_)
            refine WP.if_eq (tgt := 75) (dg tX6_change 37 rfl) (by decide) (fun z => ?_) (fun z => ?_)
            · replace h := h.1 z
              refine WP.aload_n 1 (dg tX6_change 40 rfl) rfl rfl ?_
              refine WP.getF fX6_40 h0.1 (dg tX6_change 41 rfl) ?_
              refine WP.callVv (As := []) (st := []) vX6_156 h0.2.2.2.2.2.1.1 rfl rfl ⟨Nat.le_of_ble_eq_true rfl, Nat.le_of_ble_eq_true rfl⟩ (Nat.le_of_ble_eq_true rfl) rfl (dg tX6_change 42 rfl) h (fun M12 h => ?_)
              refine WP.aload_n 0 (dg tX6_change 43 rfl) rfl rfl ?_
              refine WP.getF fX6_117 h0.2.2.2.2.2.1.2.1.1 (dg tX6_change 44 rfl) ?_
              refine WP.iload_n 2 (dg tX6_change 45 rfl) rfl rfl ?_
              obtain ⟨hb87, h⟩ := h
              refine WP.iald h0.2.2.2.2.2.1.2.1.2.2.1 hb87 (dg tX6_change 46 rfl) ?_
              refine WP.topi (fun v13 e_v13 => ?_)
              have h := h v13 e_v13
              refine WP.istore (L2 := [(4, .int v13), (3, .ref ((x0 + 16) + 1)), (0, .ref x0), (1, .int x1), (2, .int x2)]) (dg tX6_change 47 rfl) (by decide) rfl ?_
              refine WP.aload_n 1 (dg tX6_change 48 rfl) rfl rfl ?_
              refine WP.getF fX6_117 h0.2.2.2.2.2.1.2.1.1 (dg tX6_change 49 rfl) ?_
              refine WP.iload_n 3 (dg tX6_change 50 rfl) rfl rfl ?_
              refine WP.iload_n 4 (dg tX6_change 51 rfl) rfl rfl ?_
              obtain ⟨hb96, h⟩ := h
              refine WP.iast h0.2.2.2.2.2.1.2.1.2.2.1 hb96 (dg tX6_change 52 rfl) (fun M14 e_M14 => ?_)
              have h := h M14 e_M14
              refine WP.iload 0 (dg tX6_change 53 rfl) rfl ?_
              exact WP.iret rfl (dg tX6_change 54 rfl) ⟨_, rfl, h⟩
            · replace h := h.2 z
              refine WP.bipush (v := (-2)) (dg tX6_change 38 rfl) (by decide) ?_
              exact WP.iret rfl (dg tX6_change 39 rfl) ⟨_, rfl, h⟩
      · replace h := h.2 z
        refine WP.iconst (v := (-1)) (dg tX6_change 10 rfl) (by decide) ?_
        exact WP.iret rfl (dg tX6_change 11 rfl) ⟨_, rfl, h⟩
theorem sg_X6_undo_0 {T : Th} {M : Mm} {Q : Int32 → Mm → Prop} {x0 : Nat} (h0 : isX6 T x0)
    (h : WPi T mX5_takeBack [.ref (x0 + 16)] M (fun v2 M1 => (v2 = 0 → Q (-2) M1) ∧ (¬ v2 = 0 → Q (M1.1 (x0 + 16) 2) M1))) :
    WP T mX6_undo 0 [(0, .ref x0)] [] M (qi Q) := by
  refine WP.aload_n 0 (dg tX6_undo 0 rfl) rfl rfl ?_
  refine WP.getF fX6_40 h0.1 (dg tX6_undo 1 rfl) ?_
  refine WP.callVi (As := []) (st := []) vX6_175 h0.2.2.2.2.2.1.1 rfl rfl ⟨Nat.le_of_ble_eq_true rfl, Nat.le_of_ble_eq_true rfl⟩ (Nat.le_of_ble_eq_true rfl) rfl (dg tX6_undo 2 rfl) h (fun v2 M1 h => ?_)
  refine WP.if_eq (tgt := 20) (dg tX6_undo 3 rfl) (by decide) (fun z => ?_) (fun z => ?_)
  · replace h := h.1 z
    refine WP.bipush (v := (-2)) (dg tX6_undo 8 rfl) (by decide) ?_
    exact WP.iret rfl (dg tX6_undo 9 rfl) ⟨_, rfl, h⟩
  · replace h := h.2 z
    refine WP.aload_n 0 (dg tX6_undo 4 rfl) rfl rfl ?_
    refine WP.getF fX6_40 h0.1 (dg tX6_undo 5 rfl) ?_
    refine WP.getI fX6_179 h0.2.2.2.2.2.1.1 (dg tX6_undo 6 rfl) ?_
    refine WP.goto (tgt := 22) (dg tX6_undo 7 rfl) (by decide) ?_
    exact WP.iret rfl (dg tX6_undo 9 rfl) ⟨_, rfl, h⟩
theorem sg_X6_behind_0 {T : Th} {M : Mm} {Q : Int32 → Mm → Prop} {x0 : Nat} {x1 : Int32} {x2 : Int32} {x3 : Int32} (h0 : isX6 T x0)
    (h : (x1 < 0 → Q (-1) M) ∧ (¬ x1 < 0 → (60 < x1 → Q (-1) M) ∧ (¬ 60 < x1 → ∀ r1 : Nat, r1 = M.2.2 x0 7 → isX1 T r1 ∧ (WPi T mX1_hasWagon [.ref r1, .int x2] M (fun v3 M2 => (v3 = 0 → Q (-1) M2) ∧ (¬ v3 = 0 → (x3 < 0 → Q (-1) M2) ∧ (¬ x3 < 0 → (x3 ≤ 1 → WPv T mX2_copyFrom [.ref (x0 + 10), .ref ((x0 + 16) + 1)] M2 (fun M4 => WP T mX6_behind 49 [(0, .ref x0), (1, .int x1), (2, .int x2), (3, .int x3), (4, .int 0)] [] M4 (qi Q))) ∧ (¬ x3 ≤ 1 → Q (-1) M2)))))))) :
    WP T mX6_behind 0 [(0, .ref x0), (1, .int x1), (2, .int x2), (3, .int x3)] [] M (qi Q) := by
  refine WP.iload_n 1 (dg tX6_behind 0 rfl) rfl rfl ?_
  refine WP.if_lt (tgt := 30) (dg tX6_behind 1 rfl) (by decide) (fun z => ?_) (fun z => ?_)
  · replace h := h.1 z
    refine WP.iconst (v := (-1)) (dg tX6_behind 15 rfl) (by decide) ?_
    exact WP.iret rfl (dg tX6_behind 16 rfl) ⟨_, rfl, h⟩
  · replace h := h.2 z
    refine WP.iload_n 1 (dg tX6_behind 2 rfl) rfl rfl ?_
    refine WP.bipush (v := 60) (dg tX6_behind 3 rfl) (by decide) ?_
    refine WP.icmp_gt (tgt := 30) (dg tX6_behind 4 rfl) (by decide) (fun z => ?_) (fun z => ?_)
    · replace h := h.1 z
      refine WP.iconst (v := (-1)) (dg tX6_behind 15 rfl) (by decide) ?_
      exact WP.iret rfl (dg tX6_behind 16 rfl) ⟨_, rfl, h⟩
    · replace h := h.2 z
      refine WP.aload_n 0 (dg tX6_behind 5 rfl) rfl rfl ?_
      refine WP.getR fX6_53 h0.1 (dg tX6_behind 6 rfl) ?_
      refine WP.topr (fun r1 e_r1 => ?_)
      obtain ⟨o_r1, h⟩ := h r1 e_r1
      refine WP.iload_n 2 (dg tX6_behind 7 rfl) rfl rfl ?_
      refine WP.callVi (As := [.int x2]) (st := []) vX6_102 o_r1.1 rfl rfl ⟨Nat.le_of_ble_eq_true rfl, Nat.le_of_ble_eq_true rfl⟩ (Nat.le_of_ble_eq_true rfl) rfl (dg tX6_behind 8 rfl) h (fun v3 M2 h => ?_)
      refine WP.if_eq (tgt := 30) (dg tX6_behind 9 rfl) (by decide) (fun z => ?_) (fun z => ?_)
      · replace h := h.1 z
        refine WP.iconst (v := (-1)) (dg tX6_behind 15 rfl) (by decide) ?_
        exact WP.iret rfl (dg tX6_behind 16 rfl) ⟨_, rfl, h⟩
      · replace h := h.2 z
        refine WP.iload_n 3 (dg tX6_behind 10 rfl) rfl rfl ?_
        refine WP.if_lt (tgt := 30) (dg tX6_behind 11 rfl) (by decide) (fun z => ?_) (fun z => ?_)
        · replace h := h.1 z
          refine WP.iconst (v := (-1)) (dg tX6_behind 15 rfl) (by decide) ?_
          exact WP.iret rfl (dg tX6_behind 16 rfl) ⟨_, rfl, h⟩
        · replace h := h.2 z
          refine WP.iload_n 3 (dg tX6_behind 12 rfl) rfl rfl ?_
          refine WP.iconst (v := 1) (dg tX6_behind 13 rfl) (by decide) ?_
          refine WP.icmp_le (tgt := 32) (dg tX6_behind 14 rfl) (by decide) (fun z => ?_) (fun z => ?_)
          · replace h := h.1 z
            refine WP.aload_n 0 (dg tX6_behind 17 rfl) rfl rfl ?_
            refine WP.getF fX6_33 h0.1 (dg tX6_behind 18 rfl) ?_
            refine WP.aload_n 0 (dg tX6_behind 19 rfl) rfl rfl ?_
            refine WP.getF fX6_40 h0.1 (dg tX6_behind 20 rfl) ?_
            refine WP.getF fX6_105 h0.2.2.2.2.2.1.1 (dg tX6_behind 21 rfl) ?_
            refine WP.callVv (As := [.ref ((x0 + 16) + 1)]) (st := []) vX6_182 h0.2.2.2.2.1.1 rfl rfl ⟨Nat.le_of_ble_eq_true rfl, Nat.le_of_ble_eq_true rfl⟩ (Nat.le_of_ble_eq_true rfl) rfl (dg tX6_behind 22 rfl) h (fun M4 h => ?_)
            refine WP.iconst (v := 0) (dg tX6_behind 23 rfl) (by decide) ?_
            refine WP.istore (L2 := [(4, .int 0), (0, .ref x0), (1, .int x1), (2, .int x2), (3, .int x3)]) (dg tX6_behind 24 rfl) (by decide) rfl ?_
            refine WP.sub [1, 2, 3, 4, 0] rfl ?_
            exact h
          · replace h := h.2 z
            refine WP.iconst (v := (-1)) (dg tX6_behind 15 rfl) (by decide) ?_
            exact WP.iret rfl (dg tX6_behind 16 rfl) ⟨_, rfl, h⟩
theorem sg_X6_behind_49 {T : Th} {M : Mm} {Q : Int32 → Mm → Prop} {x0 : Nat} {x1 : Int32} {x2 : Int32} {x3 : Int32} {x4 : Int32} (h0 : isX6 T x0)
    (h : (x1 ≤ x4 → (¬ x3 = 0 → WPi T mX2_isCaught [.ref (x0 + 10), .int x2] M (fun v2 M1 => (v2 = 0 → Q 0 M1) ∧ (¬ v2 = 0 → Q 1 M1))) ∧ (x3 = 0 → vp_in x2 5 ∧ (Q (M.1 ((x0 + 10) + 1) x2.toNatClampNeg) M))) ∧ (¬ x1 ≤ x4 → ∀ r1 : Nat, r1 = M.2.2 x0 7 → isX1 T r1 ∧ (WPi T mX1_pass [.ref r1, .ref (x0 + 10)] M (fun v3 M2 => ∀ v4 : Int32, v4 = x4 + 1 → WP T mX6_behind 49 [(0, .ref x0), (1, .int x1), (2, .int x2), (3, .int x3), (4, .int v4)] [] M2 (qi Q))))) :
    WP T mX6_behind 49 [(0, .ref x0), (1, .int x1), (2, .int x2), (3, .int x3), (4, .int x4)] [] M (qi Q) := by
  refine WP.iload 4 (dg tX6_behind 25 rfl) rfl ?_
  refine WP.iload_n 1 (dg tX6_behind 26 rfl) rfl rfl ?_
  refine WP.icmp_ge (tgt := 73) (dg tX6_behind 27 rfl) (by decide) (fun z => ?_) (fun z => ?_)
  · replace h := h.1 z
    refine WP.iload_n 3 (dg tX6_behind 36 rfl) rfl rfl ?_
    refine WP.if_ne (tgt := 87) (dg tX6_behind 37 rfl) (by decide) (fun z => ?_) (fun z => ?_)
    · replace h := h.1 z
      refine WP.aload_n 0 (dg tX6_behind 44 rfl) rfl rfl ?_
      refine WP.getF fX6_33 h0.1 (dg tX6_behind 45 rfl) ?_
      refine WP.iload_n 2 (dg tX6_behind 46 rfl) rfl rfl ?_
      refine WP.callVi (As := [.int x2]) (st := []) vX6_129 h0.2.2.2.2.1.1 rfl rfl ⟨Nat.le_of_ble_eq_true rfl, Nat.le_of_ble_eq_true rfl⟩ (Nat.le_of_ble_eq_true rfl) rfl (dg tX6_behind 47 rfl) h (fun v2 M1 h => ?_)
      refine WP.if_eq (tgt := 102) (dg tX6_behind 48 rfl) (by decide) (fun z => ?_) (fun z => ?_)
      · replace h := h.1 z
        refine WP.iconst (v := 0) (dg tX6_behind 51 rfl) (by decide) ?_
        exact WP.iret rfl (dg tX6_behind 52 rfl) ⟨_, rfl, h⟩
      · replace h := h.2 z
        refine WP.iconst (v := 1) (dg tX6_behind 49 rfl) (by decide) ?_
        refine WP.goto (tgt := 103) (dg tX6_behind 50 rfl) (by decide) ?_
        exact WP.iret rfl (dg tX6_behind 52 rfl) ⟨_, rfl, h⟩
    · replace h := h.2 z
      refine WP.aload_n 0 (dg tX6_behind 38 rfl) rfl rfl ?_
      refine WP.getF fX6_33 h0.1 (dg tX6_behind 39 rfl) ?_
      refine WP.getF fX6_108 h0.2.2.2.2.1.1 (dg tX6_behind 40 rfl) ?_
      refine WP.iload_n 2 (dg tX6_behind 41 rfl) rfl rfl ?_
      obtain ⟨hb85, h⟩ := h
      refine WP.iald h0.2.2.2.2.1.2.1 hb85 (dg tX6_behind 42 rfl) ?_
      exact WP.iret rfl (dg tX6_behind 43 rfl) ⟨_, rfl, h⟩
  · replace h := h.2 z
    refine WP.aload_n 0 (dg tX6_behind 28 rfl) rfl rfl ?_
    refine WP.getR fX6_53 h0.1 (dg tX6_behind 29 rfl) ?_
    refine WP.topr (fun r1 e_r1 => ?_)
    obtain ⟨o_r1, h⟩ := h r1 e_r1
    refine WP.aload_n 0 (dg tX6_behind 30 rfl) rfl rfl ?_
    refine WP.getF fX6_33 h0.1 (dg tX6_behind 31 rfl) ?_
    refine WP.callVi (As := [.ref (x0 + 10)]) (st := []) vX6_159 o_r1.1 rfl rfl ⟨Nat.le_of_ble_eq_true rfl, Nat.le_of_ble_eq_true rfl⟩ (Nat.le_of_ble_eq_true rfl) rfl (dg tX6_behind 32 rfl) h (fun v3 M2 h => ?_)
    refine WP.pop (dg tX6_behind 33 rfl) rfl ?_
    obtain ⟨v4, e_v4⟩ : ∃ y : Int32, y = x4 + 1 := ⟨_, rfl⟩
    have h := h v4 e_v4
    refine WP.iinc (v := v4) (L2 := [(4, .int v4), (0, .ref x0), (1, .int x1), (2, .int x2), (3, .int x3)]) 4 (dg tX6_behind 34 rfl) rfl (by rw [e_v4]; rfl) (by decide) rfl ?_
    refine WP.goto (tgt := 49) (dg tX6_behind 35 rfl) (by decide) ?_
    refine WP.sub [1, 2, 3, 4, 0] rfl ?_
    exact h
theorem sg_X6_caught_0 {T : Th} {M : Mm} {Q : Int32 → Mm → Prop} {x0 : Nat} {x1 : Int32} (h0 : isX6 T x0)
    (h : (x1 < 0 → Q (-1) M) ∧ (¬ x1 < 0 → (x1 ≤ 1 → WPv T mX2_copyFrom [.ref (x0 + 10), .ref ((x0 + 16) + 1)] M (fun M1 => WP T mX6_caught 27 [(0, .ref x0), (1, .int x1), (2, .int 1)] [] M1 (qi Q))) ∧ (¬ x1 ≤ 1 → Q (-1) M))) :
    WP T mX6_caught 0 [(0, .ref x0), (1, .int x1)] [] M (qi Q) := by
  refine WP.iload_n 1 (dg tX6_caught 0 rfl) rfl rfl ?_
  refine WP.if_lt (tgt := 9) (dg tX6_caught 1 rfl) (by decide) (fun z => ?_) (fun z => ?_)
  · replace h := h.1 z
    refine WP.iconst (v := (-1)) (dg tX6_caught 5 rfl) (by decide) ?_
    exact WP.iret rfl (dg tX6_caught 6 rfl) ⟨_, rfl, h⟩
  · replace h := h.2 z
    refine WP.iload_n 1 (dg tX6_caught 2 rfl) rfl rfl ?_
    refine WP.iconst (v := 1) (dg tX6_caught 3 rfl) (by decide) ?_
    refine WP.icmp_le (tgt := 11) (dg tX6_caught 4 rfl) (by decide) (fun z => ?_) (fun z => ?_)
    · replace h := h.1 z
      refine WP.aload_n 0 (dg tX6_caught 7 rfl) rfl rfl ?_
      refine WP.getF fX6_33 h0.1 (dg tX6_caught 8 rfl) ?_
      refine WP.aload_n 0 (dg tX6_caught 9 rfl) rfl rfl ?_
      refine WP.getF fX6_40 h0.1 (dg tX6_caught 10 rfl) ?_
      refine WP.getF fX6_105 h0.2.2.2.2.2.1.1 (dg tX6_caught 11 rfl) ?_
      refine WP.callVv (As := [.ref ((x0 + 16) + 1)]) (st := []) vX6_182 h0.2.2.2.2.1.1 rfl rfl ⟨Nat.le_of_ble_eq_true rfl, Nat.le_of_ble_eq_true rfl⟩ (Nat.le_of_ble_eq_true rfl) rfl (dg tX6_caught 12 rfl) h (fun M1 h => ?_)
      refine WP.iconst (v := 1) (dg tX6_caught 13 rfl) (by decide) ?_
      refine WP.istore_n (L2 := [(2, .int 1), (0, .ref x0), (1, .int x1)]) (dg tX6_caught 14 rfl) rfl (by decide) rfl ?_
      refine WP.sub [1, 2, 0] rfl ?_
      exact h
    · replace h := h.2 z
      refine WP.iconst (v := (-1)) (dg tX6_caught 5 rfl) (by decide) ?_
      exact WP.iret rfl (dg tX6_caught 6 rfl) ⟨_, rfl, h⟩
theorem sg_X6_caught_27 {T : Th} {M : Mm} {Q : Int32 → Mm → Prop} {x0 : Nat} {x1 : Int32} {x2 : Int32} (h0 : isX6 T x0)
    (h : (60 < x2 → Q (-9) M) ∧ (¬ 60 < x2 → ∀ r1 : Nat, r1 = M.2.2 x0 7 → isX1 T r1 ∧ (WPi T mX1_pass [.ref r1, .ref (x0 + 10)] M (fun v3 M2 => ∀ v4 : Int32, v4 = (M2.1 (x0 + 10) 1) &&& ((M2.1 ((x0 + 16) + 1) 1) ^^^ (-1)) → (v4 = 0 → ∀ v5 : Int32, v5 = x2 + 1 → WP T mX6_caught 27 [(0, .ref x0), (1, .int x1), (2, .int v5)] [] M2 (qi Q)) ∧ (¬ v4 = 0 → (¬ x1 = 0 → WPi T mX6_leastOf [.int v4] M2 (fun v6 M5 => Q v6 M5)) ∧ (x1 = 0 → Q x2 M2)))))) :
    WP T mX6_caught 27 [(0, .ref x0), (1, .int x1), (2, .int x2)] [] M (qi Q) := by
  refine WP.iload_n 2 (dg tX6_caught 15 rfl) rfl rfl ?_
  refine WP.bipush (v := 60) (dg tX6_caught 16 rfl) (by decide) ?_
  refine WP.icmp_gt (tgt := 89) (dg tX6_caught 17 rfl) (by decide) (fun z => ?_) (fun z => ?_)
  · replace h := h.1 z
    refine WP.bipush (v := (-9)) (dg tX6_caught 46 rfl) (by decide) ?_
    exact WP.iret rfl (dg tX6_caught 47 rfl) ⟨_, rfl, h⟩
  · replace h := h.2 z
    refine WP.aload_n 0 (dg tX6_caught 18 rfl) rfl rfl ?_
    refine WP.getR fX6_53 h0.1 (dg tX6_caught 19 rfl) ?_
    refine WP.topr (fun r1 e_r1 => ?_)
    obtain ⟨o_r1, h⟩ := h r1 e_r1
    refine WP.aload_n 0 (dg tX6_caught 20 rfl) rfl rfl ?_
    refine WP.getF fX6_33 h0.1 (dg tX6_caught 21 rfl) ?_
    refine WP.callVi (As := [.ref (x0 + 10)]) (st := []) vX6_159 o_r1.1 rfl rfl ⟨Nat.le_of_ble_eq_true rfl, Nat.le_of_ble_eq_true rfl⟩ (Nat.le_of_ble_eq_true rfl) rfl (dg tX6_caught 22 rfl) h (fun v3 M2 h => ?_)
    refine WP.pop (dg tX6_caught 23 rfl) rfl ?_
    refine WP.aload_n 0 (dg tX6_caught 24 rfl) rfl rfl ?_
    refine WP.getF fX6_33 h0.1 (dg tX6_caught 25 rfl) ?_
    refine WP.getI fX6_144 h0.2.2.2.2.1.1 (dg tX6_caught 26 rfl) ?_
    refine WP.aload_n 0 (dg tX6_caught 27 rfl) rfl rfl ?_
    refine WP.getF fX6_40 h0.1 (dg tX6_caught 28 rfl) ?_
    refine WP.getF fX6_105 h0.2.2.2.2.2.1.1 (dg tX6_caught 29 rfl) ?_
    refine WP.getI fX6_144 h0.2.2.2.2.2.1.2.1.1 (dg tX6_caught 30 rfl) ?_
    refine WP.iconst (v := (-1)) (dg tX6_caught 31 rfl) (by decide) ?_
    refine WP.ixor (dg tX6_caught 32 rfl) ?_
    refine WP.iand (dg tX6_caught 33 rfl) ?_
    refine WP.topi (fun v4 e_v4 => ?_)
    have h := h v4 e_v4
    refine WP.istore_n (L2 := [(3, .int v4), (0, .ref x0), (1, .int x1), (2, .int x2)]) (dg tX6_caught 34 rfl) rfl (by decide) rfl ?_
    refine WP.iload_n 0 (dg tX6_caught 35 rfl) rfl rfl ?_
    refine WP.if_eq (tgt := 83) (dg tX6_caught 36 rfl) (by decide) (fun z => ?_) (fun z => ?_)
    · replace h := h.1 z
      obtain ⟨v5, e_v5⟩ : ∃ y : Int32, y = x2 + 1 := ⟨_, rfl⟩
      have h := h v5 e_v5
      refine WP.iinc (v := v5) (L2 := [(2, .int v5), (3, .int v4), (0, .ref x0), (1, .int x1)]) 3 (dg tX6_caught 44 rfl) rfl (by rw [e_v5]; rfl) (by decide) rfl ?_
      refine WP.goto (tgt := 27) (dg tX6_caught 45 rfl) (by decide) ?_
      refine WP.sub [2, 3, 0] rfl ?_
      exact h
    · replace h := h.2 z
      refine WP.iload_n 2 (dg tX6_caught 37 rfl) rfl rfl ?_
      refine WP.if_ne (tgt := 78) (dg tX6_caught 38 rfl) (by decide) (fun z => ?_) (fun z => ?_)
      · replace h := h.1 z
        refine WP.iload_n 0 (dg tX6_caught 41 rfl) rfl rfl ?_
        refine WP.callSi (As := [.int v4]) (st := []) vX6_185 rfl ⟨Nat.le_of_ble_eq_true rfl, Nat.le_of_ble_eq_true rfl⟩ (Nat.le_of_ble_eq_true rfl) rfl (dg tX6_caught 42 rfl) h (fun v6 M5 h => ?_)
        exact WP.iret rfl (dg tX6_caught 43 rfl) ⟨_, rfl, h⟩
      · replace h := h.2 z
        refine WP.iload_n 3 (dg tX6_caught 39 rfl) rfl rfl ?_
        refine WP.goto (tgt := 82) (dg tX6_caught 40 rfl) (by decide) ?_
        exact WP.iret rfl (dg tX6_caught 43 rfl) ⟨_, rfl, h⟩
theorem sg_X6_waits_0 {T : Th} {M : Mm} {Q : Int32 → Mm → Prop} {x0 : Nat} {x1 : Int32} (h0 : isX6 T x0)
    (h : (x1 < 0 → Q (-1) M) ∧ (¬ x1 < 0 → (x1 ≤ 1 → WPv T mX2_copyFrom [.ref (x0 + 10), .ref ((x0 + 16) + 1)] M (fun M1 => WP T mX6_waits 27 [(0, .ref x0), (1, .int x1), (2, .int 1)] [] M1 (qi Q))) ∧ (¬ x1 ≤ 1 → Q (-1) M))) :
    WP T mX6_waits 0 [(0, .ref x0), (1, .int x1)] [] M (qi Q) := by
  refine WP.iload_n 1 (dg tX6_waits 0 rfl) rfl rfl ?_
  refine WP.if_lt (tgt := 9) (dg tX6_waits 1 rfl) (by decide) (fun z => ?_) (fun z => ?_)
  · replace h := h.1 z
    refine WP.iconst (v := (-1)) (dg tX6_waits 5 rfl) (by decide) ?_
    exact WP.iret rfl (dg tX6_waits 6 rfl) ⟨_, rfl, h⟩
  · replace h := h.2 z
    refine WP.iload_n 1 (dg tX6_waits 2 rfl) rfl rfl ?_
    refine WP.iconst (v := 1) (dg tX6_waits 3 rfl) (by decide) ?_
    refine WP.icmp_le (tgt := 11) (dg tX6_waits 4 rfl) (by decide) (fun z => ?_) (fun z => ?_)
    · replace h := h.1 z
      refine WP.aload_n 0 (dg tX6_waits 7 rfl) rfl rfl ?_
      refine WP.getF fX6_33 h0.1 (dg tX6_waits 8 rfl) ?_
      refine WP.aload_n 0 (dg tX6_waits 9 rfl) rfl rfl ?_
      refine WP.getF fX6_40 h0.1 (dg tX6_waits 10 rfl) ?_
      refine WP.getF fX6_105 h0.2.2.2.2.2.1.1 (dg tX6_waits 11 rfl) ?_
      refine WP.callVv (As := [.ref ((x0 + 16) + 1)]) (st := []) vX6_182 h0.2.2.2.2.1.1 rfl rfl ⟨Nat.le_of_ble_eq_true rfl, Nat.le_of_ble_eq_true rfl⟩ (Nat.le_of_ble_eq_true rfl) rfl (dg tX6_waits 12 rfl) h (fun M1 h => ?_)
      refine WP.iconst (v := 1) (dg tX6_waits 13 rfl) (by decide) ?_
      refine WP.istore_n (L2 := [(2, .int 1), (0, .ref x0), (1, .int x1)]) (dg tX6_waits 14 rfl) rfl (by decide) rfl ?_
      refine WP.sub [1, 2, 0] rfl ?_
      exact h
    · replace h := h.2 z
      refine WP.iconst (v := (-1)) (dg tX6_waits 5 rfl) (by decide) ?_
      exact WP.iret rfl (dg tX6_waits 6 rfl) ⟨_, rfl, h⟩
theorem sg_X6_waits_27 {T : Th} {M : Mm} {Q : Int32 → Mm → Prop} {x0 : Nat} {x1 : Int32} {x2 : Int32} (h0 : isX6 T x0)
    (h : (60 < x2 → Q (-9) M) ∧ (¬ 60 < x2 → ∀ r1 : Nat, r1 = M.2.2 x0 7 → isX1 T r1 ∧ (WPi T mX1_pass [.ref r1, .ref (x0 + 10)] M (fun v3 M2 => (v3 = (-1) → ∀ v4 : Int32, v4 = x2 + 1 → WP T mX6_waits 27 [(0, .ref x0), (1, .int x1), (2, .int v4)] [] M2 (qi Q)) ∧ (¬ v3 = (-1) → (¬ x1 = 0 → Q v3 M2) ∧ (x1 = 0 → Q x2 M2)))))) :
    WP T mX6_waits 27 [(0, .ref x0), (1, .int x1), (2, .int x2)] [] M (qi Q) := by
  refine WP.iload_n 2 (dg tX6_waits 15 rfl) rfl rfl ?_
  refine WP.bipush (v := 60) (dg tX6_waits 16 rfl) (by decide) ?_
  refine WP.icmp_gt (tgt := 66) (dg tX6_waits 17 rfl) (by decide) (fun z => ?_) (fun z => ?_)
  · replace h := h.1 z
    refine WP.bipush (v := (-9)) (dg tX6_waits 35 rfl) (by decide) ?_
    exact WP.iret rfl (dg tX6_waits 36 rfl) ⟨_, rfl, h⟩
  · replace h := h.2 z
    refine WP.aload_n 0 (dg tX6_waits 18 rfl) rfl rfl ?_
    refine WP.getR fX6_53 h0.1 (dg tX6_waits 19 rfl) ?_
    refine WP.topr (fun r1 e_r1 => ?_)
    obtain ⟨o_r1, h⟩ := h r1 e_r1
    refine WP.aload_n 0 (dg tX6_waits 20 rfl) rfl rfl ?_
    refine WP.getF fX6_33 h0.1 (dg tX6_waits 21 rfl) ?_
    refine WP.callVi (As := [.ref (x0 + 10)]) (st := []) vX6_159 o_r1.1 rfl rfl ⟨Nat.le_of_ble_eq_true rfl, Nat.le_of_ble_eq_true rfl⟩ (Nat.le_of_ble_eq_true rfl) rfl (dg tX6_waits 22 rfl) h (fun v3 M2 h => ?_)
    refine WP.istore_n (L2 := [(3, .int v3), (0, .ref x0), (1, .int x1), (2, .int x2)]) (dg tX6_waits 23 rfl) rfl (by decide) rfl ?_
    refine WP.iload_n 0 (dg tX6_waits 24 rfl) rfl rfl ?_
    refine WP.iconst (v := (-1)) (dg tX6_waits 25 rfl) (by decide) ?_
    refine WP.icmp_eq (tgt := 60) (dg tX6_waits 26 rfl) (by decide) (fun z => ?_) (fun z => ?_)
    · replace h := h.1 z
      obtain ⟨v4, e_v4⟩ : ∃ y : Int32, y = x2 + 1 := ⟨_, rfl⟩
      have h := h v4 e_v4
      refine WP.iinc (v := v4) (L2 := [(2, .int v4), (3, .int v3), (0, .ref x0), (1, .int x1)]) 3 (dg tX6_waits 33 rfl) rfl (by rw [e_v4]; rfl) (by decide) rfl ?_
      refine WP.goto (tgt := 27) (dg tX6_waits 34 rfl) (by decide) ?_
      refine WP.sub [2, 3, 0] rfl ?_
      exact h
    · replace h := h.2 z
      refine WP.iload_n 2 (dg tX6_waits 27 rfl) rfl rfl ?_
      refine WP.if_ne (tgt := 58) (dg tX6_waits 28 rfl) (by decide) (fun z => ?_) (fun z => ?_)
      · replace h := h.1 z
        refine WP.iload_n 0 (dg tX6_waits 31 rfl) rfl rfl ?_
        exact WP.iret rfl (dg tX6_waits 32 rfl) ⟨_, rfl, h⟩
      · replace h := h.2 z
        refine WP.iload_n 3 (dg tX6_waits 29 rfl) rfl rfl ?_
        refine WP.goto (tgt := 59) (dg tX6_waits 30 rfl) (by decide) ?_
        exact WP.iret rfl (dg tX6_waits 32 rfl) ⟨_, rfl, h⟩
theorem sg_X6_stands_0 {T : Th} {M : Mm} {Q : Int32 → Mm → Prop} {x0 : Nat} {x1 : Int32} (h0 : isX6 T x0)
    (h : ∀ r1 : Nat, r1 = M.2.2 x0 7 → isX1 T r1 ∧ (WPi T mX1_hasWagon [.ref r1, .int x1] M (fun v3 M2 => (¬ v3 = 0 → WPi T mX2_isCaught [.ref ((x0 + 16) + 1), .int x1] M2 (fun v5 M4 => (v5 = 0 → WPv T mX3_gatherNone [.ref (x0 + 3)] M4 (fun M6 => vp_in x1 5 ∧ (∀ v7 : Int32, v7 = (if (99 - (M6.1 (((x0 + 16) + 1) + 4) x1.toNatClampNeg)) < 30 then (99 - (M6.1 (((x0 + 16) + 1) + 4) x1.toNatClampNeg)) else 30) → WP T mX6_stands 58 [(0, .ref x0), (1, .int x1), (2, .int v7)] [] M6 (qi Q)))) ∧ (¬ v5 = 0 → Q (-2) M4))) ∧ (v3 = 0 → Q (-1) M2)))) :
    WP T mX6_stands 0 [(0, .ref x0), (1, .int x1)] [] M (qi Q) := by
  refine WP.aload_n 0 (dg tX6_stands 0 rfl) rfl rfl ?_
  refine WP.getR fX6_53 h0.1 (dg tX6_stands 1 rfl) ?_
  refine WP.topr (fun r1 e_r1 => ?_)
  obtain ⟨o_r1, h⟩ := h r1 e_r1
  refine WP.iload_n 1 (dg tX6_stands 2 rfl) rfl rfl ?_
  refine WP.callVi (As := [.int x1]) (st := []) vX6_102 o_r1.1 rfl rfl ⟨Nat.le_of_ble_eq_true rfl, Nat.le_of_ble_eq_true rfl⟩ (Nat.le_of_ble_eq_true rfl) rfl (dg tX6_stands 3 rfl) h (fun v3 M2 h => ?_)
  refine WP.if_ne (tgt := 13) (dg tX6_stands 4 rfl) (by decide) (fun z => ?_) (fun z => ?_)
  · replace h := h.1 z
    refine WP.aload_n 0 (dg tX6_stands 7 rfl) rfl rfl ?_
    refine WP.getF fX6_40 h0.1 (dg tX6_stands 8 rfl) ?_
    refine WP.getF fX6_105 h0.2.2.2.2.2.1.1 (dg tX6_stands 9 rfl) ?_
    refine WP.iload_n 1 (dg tX6_stands 10 rfl) rfl rfl ?_
    refine WP.callVi (As := [.int x1]) (st := []) vX6_129 h0.2.2.2.2.2.1.2.1.1 rfl rfl ⟨Nat.le_of_ble_eq_true rfl, Nat.le_of_ble_eq_true rfl⟩ (Nat.le_of_ble_eq_true rfl) rfl (dg tX6_stands 11 rfl) h (fun v5 M4 h => ?_)
    refine WP.if_eq (tgt := 30) (dg tX6_stands 12 rfl) (by decide) (fun z => ?_) (fun z => ?_)
    · replace h := h.1 z
      refine WP.aload_n 0 (dg tX6_stands 15 rfl) rfl rfl ?_
      refine WP.getF fX6_19 h0.1 (dg tX6_stands 16 rfl) ?_
      refine WP.callVv (As := []) (st := []) vX6_188 h0.2.2.1.1 rfl rfl ⟨Nat.le_of_ble_eq_true rfl, Nat.le_of_ble_eq_true rfl⟩ (Nat.le_of_ble_eq_true rfl) rfl (dg tX6_stands 17 rfl) h (fun M6 h => ?_)
      refine WP.bipush (v := 30) (dg tX6_stands 18 rfl) (by decide) ?_
      refine WP.bipush (v := 99) (dg tX6_stands 19 rfl) (by decide) ?_
      refine WP.aload_n 0 (dg tX6_stands 20 rfl) rfl rfl ?_
      refine WP.getF fX6_40 h0.1 (dg tX6_stands 21 rfl) ?_
      refine WP.getF fX6_105 h0.2.2.2.2.2.1.1 (dg tX6_stands 22 rfl) ?_
      refine WP.getF fX6_123 h0.2.2.2.2.2.1.2.1.1 (dg tX6_stands 23 rfl) ?_
      refine WP.iload_n 1 (dg tX6_stands 24 rfl) rfl rfl ?_
      obtain ⟨hb52, h⟩ := h
      refine WP.iald h0.2.2.2.2.2.1.2.1.2.2.2.2.1 hb52 (dg tX6_stands 25 rfl) ?_
      refine WP.isub (dg tX6_stands 26 rfl) ?_
      refine WP.mmin vX6_191 (by decide) (Nat.le_of_ble_eq_true rfl) (dg tX6_stands 27 rfl) ?_
      refine WP.topi (fun v7 e_v7 => ?_)
      have h := h v7 e_v7
      refine WP.istore_n (L2 := [(2, .int v7), (0, .ref x0), (1, .int x1)]) (dg tX6_stands 28 rfl) rfl (by decide) rfl ?_
      refine WP.sub [1, 2, 0] rfl ?_
      exact h
    · replace h := h.2 z
      refine WP.bipush (v := (-2)) (dg tX6_stands 13 rfl) (by decide) ?_
      exact WP.iret rfl (dg tX6_stands 14 rfl) ⟨_, rfl, h⟩
  · replace h := h.2 z
    refine WP.iconst (v := (-1)) (dg tX6_stands 5 rfl) (by decide) ?_
    exact WP.iret rfl (dg tX6_stands 6 rfl) ⟨_, rfl, h⟩
theorem sg_X6_stands_58 {T : Th} {M : Mm} {Q : Int32 → Mm → Prop} {x0 : Nat} {x1 : Int32} {x2 : Int32} (h0 : isX6 T x0)
    (h : (x2 < 0 → Q (-9) M) ∧ (¬ x2 < 0 → WPv T mX2_copyFrom [.ref (x0 + 10), .ref ((x0 + 16) + 1)] M (fun M1 => vp_in x1 5 ∧ (vp_in x1 5 ∧ (∀ M2 : Mm, M2 = sI M1 ((x0 + 10) + 4) x1.toNatClampNeg ((M1.1 ((x0 + 10) + 4) x1.toNatClampNeg) + x2) → WPi T mX6_isTrialSafe [.ref x0] M2 (fun v4 M3 => (v4 = 0 → ∀ v5 : Int32, v5 = x2 + (-1) → WP T mX6_stands 58 [(0, .ref x0), (1, .int x1), (2, .int v5)] [] M3 (qi Q)) ∧ (¬ v4 = 0 → Q x2 M3))))))) :
    WP T mX6_stands 58 [(0, .ref x0), (1, .int x1), (2, .int x2)] [] M (qi Q) := by
  refine WP.iload_n 2 (dg tX6_stands 29 rfl) rfl rfl ?_
  refine WP.if_lt (tgt := 104) (dg tX6_stands 30 rfl) (by decide) (fun z => ?_) (fun z => ?_)
  · replace h := h.1 z
    refine WP.bipush (v := (-9)) (dg tX6_stands 53 rfl) (by decide) ?_
    exact WP.iret rfl (dg tX6_stands 54 rfl) ⟨_, rfl, h⟩
  · replace h := h.2 z
    refine WP.aload_n 0 (dg tX6_stands 31 rfl) rfl rfl ?_
    refine WP.getF fX6_33 h0.1 (dg tX6_stands 32 rfl) ?_
    refine WP.aload_n 0 (dg tX6_stands 33 rfl) rfl rfl ?_
    refine WP.getF fX6_40 h0.1 (dg tX6_stands 34 rfl) ?_
    refine WP.getF fX6_105 h0.2.2.2.2.2.1.1 (dg tX6_stands 35 rfl) ?_
    refine WP.callVv (As := [.ref ((x0 + 16) + 1)]) (st := []) vX6_182 h0.2.2.2.2.1.1 rfl rfl ⟨Nat.le_of_ble_eq_true rfl, Nat.le_of_ble_eq_true rfl⟩ (Nat.le_of_ble_eq_true rfl) rfl (dg tX6_stands 36 rfl) h (fun M1 h => ?_)
    refine WP.aload_n 0 (dg tX6_stands 37 rfl) rfl rfl ?_
    refine WP.getF fX6_33 h0.1 (dg tX6_stands 38 rfl) ?_
    refine WP.getF fX6_123 h0.2.2.2.2.1.1 (dg tX6_stands 39 rfl) ?_
    refine WP.iload_n 1 (dg tX6_stands 40 rfl) rfl rfl ?_
    refine WP.dup2 (dg tX6_stands 41 rfl) rfl rfl ?_
    obtain ⟨hb85, h⟩ := h
    refine WP.iald h0.2.2.2.2.1.2.2.2.2.1 hb85 (dg tX6_stands 42 rfl) ?_
    refine WP.iload_n 2 (dg tX6_stands 43 rfl) rfl rfl ?_
    refine WP.iadd (dg tX6_stands 44 rfl) ?_
    obtain ⟨hb88, h⟩ := h
    refine WP.iast h0.2.2.2.2.1.2.2.2.2.1 hb88 (dg tX6_stands 45 rfl) (fun M2 e_M2 => ?_)
    have h := h M2 e_M2
    refine WP.aload_n 0 (dg tX6_stands 46 rfl) rfl rfl ?_
    refine WP.callVi (As := []) (st := []) vX6_196 h0.1 rfl rfl ⟨Nat.le_of_ble_eq_true rfl, Nat.le_of_ble_eq_true rfl⟩ (Nat.le_of_ble_eq_true rfl) rfl (dg tX6_stands 47 rfl) h (fun v4 M3 h => ?_)
    refine WP.if_eq (tgt := 98) (dg tX6_stands 48 rfl) (by decide) (fun z => ?_) (fun z => ?_)
    · replace h := h.1 z
      obtain ⟨v5, e_v5⟩ : ∃ y : Int32, y = x2 + (-1) := ⟨_, rfl⟩
      have h := h v5 e_v5
      refine WP.iinc (v := v5) (L2 := [(2, .int v5), (0, .ref x0), (1, .int x1)]) 2 (dg tX6_stands 51 rfl) rfl (by rw [e_v5]; rfl) (by decide) rfl ?_
      refine WP.goto (tgt := 58) (dg tX6_stands 52 rfl) (by decide) ?_
      refine WP.sub [1, 2, 0] rfl ?_
      exact h
    · replace h := h.2 z
      refine WP.iload_n 2 (dg tX6_stands 49 rfl) rfl rfl ?_
      exact WP.iret rfl (dg tX6_stands 50 rfl) ⟨_, rfl, h⟩
theorem sg_X6_starts_0 {T : Th} {M : Mm} {Q : Int32 → Mm → Prop} {x0 : Nat} {x1 : Int32} (h0 : isX6 T x0)
    (h : (x1 = (-1) → WP T mX6_starts 18 [(0, .ref x0), (1, .int x1)] [] M (qi Q)) ∧ (¬ x1 = (-1) → ∀ r1 : Nat, r1 = M.2.2 x0 7 → isX1 T r1 ∧ (WPi T mX1_hasWagon [.ref r1, .int x1] M (fun v3 M2 => (¬ v3 = 0 → WP T mX6_starts 18 [(0, .ref x0), (1, .int x1)] [] M2 (qi Q)) ∧ (v3 = 0 → Q (-1) M2))))) :
    WP T mX6_starts 0 [(0, .ref x0), (1, .int x1)] [] M (qi Q) := by
  refine WP.iload_n 1 (dg tX6_starts 0 rfl) rfl rfl ?_
  refine WP.iconst (v := (-1)) (dg tX6_starts 1 rfl) (by decide) ?_
  refine WP.icmp_eq (tgt := 18) (dg tX6_starts 2 rfl) (by decide) (fun z => ?_) (fun z => ?_)
  · replace h := h.1 z
    exact h
  · replace h := h.2 z
    refine WP.aload_n 0 (dg tX6_starts 3 rfl) rfl rfl ?_
    refine WP.getR fX6_53 h0.1 (dg tX6_starts 4 rfl) ?_
    refine WP.topr (fun r1 e_r1 => ?_)
    obtain ⟨o_r1, h⟩ := h r1 e_r1
    refine WP.iload_n 1 (dg tX6_starts 5 rfl) rfl rfl ?_
    refine WP.callVi (As := [.int x1]) (st := []) vX6_102 o_r1.1 rfl rfl ⟨Nat.le_of_ble_eq_true rfl, Nat.le_of_ble_eq_true rfl⟩ (Nat.le_of_ble_eq_true rfl) rfl (dg tX6_starts 6 rfl) h (fun v3 M2 h => ?_)
    refine WP.if_ne (tgt := 18) (dg tX6_starts 7 rfl) (by decide) (fun z => ?_) (fun z => ?_)
    · replace h := h.1 z
      exact h
    · replace h := h.2 z
      refine WP.iconst (v := (-1)) (dg tX6_starts 8 rfl) (by decide) ?_
      exact WP.iret rfl (dg tX6_starts 9 rfl) ⟨_, rfl, h⟩
theorem sg_X6_starts_18 {T : Th} {M : Mm} {Q : Int32 → Mm → Prop} {x0 : Nat} {x1 : Int32} (h0 : isX6 T x0)
    (h : ∀ r1 : Nat, r1 = M.2.2 x0 7 → isX1 T r1 ∧ (WPv T mX3_gather [.ref (x0 + 3), .ref r1, .ref ((x0 + 16) + 1)] M (fun M2 => WPi T mX6_findStarts [.ref x0] M2 (fun v4 M3 => (¬ v4 = 0 → (¬ x1 = (-1) → WPi T mX3_startOf [.ref (x0 + 3), .int x1] M3 (fun v6 M5 => Q v6 M5)) ∧ (x1 = (-1) → WPi T mX3_sum [.ref (x0 + 3)] M3 (fun v6 M5 => Q v6 M5))) ∧ (v4 = 0 → Q (-9) M3))))) :
    WP T mX6_starts 18 [(0, .ref x0), (1, .int x1)] [] M (qi Q) := by
  refine WP.aload_n 0 (dg tX6_starts 10 rfl) rfl rfl ?_
  refine WP.getF fX6_19 h0.1 (dg tX6_starts 11 rfl) ?_
  refine WP.aload_n 0 (dg tX6_starts 12 rfl) rfl rfl ?_
  refine WP.getR fX6_53 h0.1 (dg tX6_starts 13 rfl) ?_
  refine WP.topr (fun r1 e_r1 => ?_)
  obtain ⟨o_r1, h⟩ := h r1 e_r1
  refine WP.aload_n 0 (dg tX6_starts 14 rfl) rfl rfl ?_
  refine WP.getF fX6_40 h0.1 (dg tX6_starts 15 rfl) ?_
  refine WP.getF fX6_105 h0.2.2.2.2.2.1.1 (dg tX6_starts 16 rfl) ?_
  refine WP.callVv (As := [.ref r1, .ref ((x0 + 16) + 1)]) (st := []) vX6_199 h0.2.2.1.1 rfl rfl ⟨Nat.le_of_ble_eq_true rfl, Nat.le_of_ble_eq_true rfl⟩ (Nat.le_of_ble_eq_true rfl) rfl (dg tX6_starts 17 rfl) h (fun M2 h => ?_)
  refine WP.aload_n 0 (dg tX6_starts 18 rfl) rfl rfl ?_
  refine WP.callVi (As := []) (st := []) vX6_203 h0.1 rfl rfl ⟨Nat.le_of_ble_eq_true rfl, Nat.le_of_ble_eq_true rfl⟩ (Nat.le_of_ble_eq_true rfl) rfl (dg tX6_starts 19 rfl) h (fun v4 M3 h => ?_)
  refine WP.if_ne (tgt := 46) (dg tX6_starts 20 rfl) (by decide) (fun z => ?_) (fun z => ?_)
  · replace h := h.1 z
    refine WP.iload_n 1 (dg tX6_starts 23 rfl) rfl rfl ?_
    refine WP.iconst (v := (-1)) (dg tX6_starts 24 rfl) (by decide) ?_
    refine WP.icmp_ne (tgt := 61) (dg tX6_starts 25 rfl) (by decide) (fun z => ?_) (fun z => ?_)
    · replace h := h.1 z
      refine WP.aload_n 0 (dg tX6_starts 30 rfl) rfl rfl ?_
      refine WP.getF fX6_19 h0.1 (dg tX6_starts 31 rfl) ?_
      refine WP.iload_n 1 (dg tX6_starts 32 rfl) rfl rfl ?_
      refine WP.callVi (As := [.int x1]) (st := []) vX6_210 h0.2.2.1.1 rfl rfl ⟨Nat.le_of_ble_eq_true rfl, Nat.le_of_ble_eq_true rfl⟩ (Nat.le_of_ble_eq_true rfl) rfl (dg tX6_starts 33 rfl) h (fun v6 M5 h => ?_)
      exact WP.iret rfl (dg tX6_starts 34 rfl) ⟨_, rfl, h⟩
    · replace h := h.2 z
      refine WP.aload_n 0 (dg tX6_starts 26 rfl) rfl rfl ?_
      refine WP.getF fX6_19 h0.1 (dg tX6_starts 27 rfl) ?_
      refine WP.callVi (As := []) (st := []) vX6_206 h0.2.2.1.1 rfl rfl ⟨Nat.le_of_ble_eq_true rfl, Nat.le_of_ble_eq_true rfl⟩ (Nat.le_of_ble_eq_true rfl) rfl (dg tX6_starts 28 rfl) h (fun v6 M5 h => ?_)
      refine WP.goto (tgt := 69) (dg tX6_starts 29 rfl) (by decide) ?_
      exact WP.iret rfl (dg tX6_starts 34 rfl) ⟨_, rfl, h⟩
  · replace h := h.2 z
    refine WP.bipush (v := (-9)) (dg tX6_starts 21 rfl) (by decide) ?_
    exact WP.iret rfl (dg tX6_starts 22 rfl) ⟨_, rfl, h⟩
theorem sg_X6_bars_0 {T : Th} {M : Mm} {Q : Int32 → Mm → Prop} {x0 : Nat} (h0 : isX6 T x0)
    (h : ∀ r1 : Nat, r1 = M.2.2 x0 7 → isX1 T r1 ∧ (WPv T mX3_gather [.ref (x0 + 3), .ref r1, .ref ((x0 + 16) + 1)] M (fun M2 => WPi T mX6_findStarts [.ref x0] M2 (fun v4 M3 => (v4 = 0 → WP T mX6_bars 30 [(0, .ref x0), (1, .int 0)] [] M3 (qi Q)) ∧ (¬ v4 = 0 → Q (-9) M3))))) :
    WP T mX6_bars 0 [(0, .ref x0)] [] M (qi Q) := by
  refine WP.aload_n 0 (dg tX6_bars 0 rfl) rfl rfl ?_
  refine WP.getF fX6_19 h0.1 (dg tX6_bars 1 rfl) ?_
  refine WP.aload_n 0 (dg tX6_bars 2 rfl) rfl rfl ?_
  refine WP.getR fX6_53 h0.1 (dg tX6_bars 3 rfl) ?_
  refine WP.topr (fun r1 e_r1 => ?_)
  obtain ⟨o_r1, h⟩ := h r1 e_r1
  refine WP.aload_n 0 (dg tX6_bars 4 rfl) rfl rfl ?_
  refine WP.getF fX6_40 h0.1 (dg tX6_bars 5 rfl) ?_
  refine WP.getF fX6_105 h0.2.2.2.2.2.1.1 (dg tX6_bars 6 rfl) ?_
  refine WP.callVv (As := [.ref r1, .ref ((x0 + 16) + 1)]) (st := []) vX6_199 h0.2.2.1.1 rfl rfl ⟨Nat.le_of_ble_eq_true rfl, Nat.le_of_ble_eq_true rfl⟩ (Nat.le_of_ble_eq_true rfl) rfl (dg tX6_bars 7 rfl) h (fun M2 h => ?_)
  refine WP.aload_n 0 (dg tX6_bars 8 rfl) rfl rfl ?_
  refine WP.callVi (As := []) (st := []) vX6_203 h0.1 rfl rfl ⟨Nat.le_of_ble_eq_true rfl, Nat.le_of_ble_eq_true rfl⟩ (Nat.le_of_ble_eq_true rfl) rfl (dg tX6_bars 9 rfl) h (fun v4 M3 h => ?_)
  refine WP.if_eq (tgt := 28) (dg tX6_bars 10 rfl) (by decide) (fun z => ?_) (fun z => ?_)
  · replace h := h.1 z
    refine WP.iconst (v := 0) (dg tX6_bars 13 rfl) (by decide) ?_
    refine WP.istore_n (L2 := [(1, .int 0), (0, .ref x0)]) (dg tX6_bars 14 rfl) rfl (by decide) rfl ?_
    refine WP.sub [1, 0] rfl ?_
    exact h
  · replace h := h.2 z
    refine WP.bipush (v := (-9)) (dg tX6_bars 11 rfl) (by decide) ?_
    exact WP.iret rfl (dg tX6_bars 12 rfl) ⟨_, rfl, h⟩
theorem sg_X6_bars_30 {T : Th} {M : Mm} {Q : Int32 → Mm → Prop} {x0 : Nat} {x1 : Int32} (h0 : isX6 T x0)
    (h : ((M.1 (x0 + 3) 0) ≤ x1 → Q (-9) M) ∧ (¬ (M.1 (x0 + 3) 0) ≤ x1 → (3 ≤ x1 → Q (-9) M) ∧ (¬ 3 ≤ x1 → ∀ M1 : Mm, M1 = sI M (x0 + 3) 1 x1 → WPi T mX6_findStarts [.ref x0] M1 (fun v3 M2 => (v3 = 0 → ∀ v4 : Int32, v4 = x1 + 1 → WP T mX6_bars 30 [(0, .ref x0), (1, .int v4)] [] M2 (qi Q)) ∧ (¬ v3 = 0 → vp_in x1 3 ∧ (Q (M2.1 ((x0 + 3) + 1) x1.toNatClampNeg) M2)))))) :
    WP T mX6_bars 30 [(0, .ref x0), (1, .int x1)] [] M (qi Q) := by
  refine WP.iload_n 1 (dg tX6_bars 15 rfl) rfl rfl ?_
  refine WP.aload_n 0 (dg tX6_bars 16 rfl) rfl rfl ?_
  refine WP.getF fX6_19 h0.1 (dg tX6_bars 17 rfl) ?_
  refine WP.getI fX6_213 h0.2.2.1.1 (dg tX6_bars 18 rfl) ?_
  refine WP.icmp_ge (tgt := 77) (dg tX6_bars 19 rfl) (by decide) (fun z => ?_) (fun z => ?_)
  · replace h := h.1 z
    refine WP.bipush (v := (-9)) (dg tX6_bars 38 rfl) (by decide) ?_
    exact WP.iret rfl (dg tX6_bars 39 rfl) ⟨_, rfl, h⟩
  · replace h := h.2 z
    refine WP.iload_n 1 (dg tX6_bars 20 rfl) rfl rfl ?_
    refine WP.iconst (v := 3) (dg tX6_bars 21 rfl) (by decide) ?_
    refine WP.icmp_ge (tgt := 77) (dg tX6_bars 22 rfl) (by decide) (fun z => ?_) (fun z => ?_)
    · replace h := h.1 z
      refine WP.bipush (v := (-9)) (dg tX6_bars 38 rfl) (by decide) ?_
      exact WP.iret rfl (dg tX6_bars 39 rfl) ⟨_, rfl, h⟩
    · replace h := h.2 z
      refine WP.aload_n 0 (dg tX6_bars 23 rfl) rfl rfl ?_
      refine WP.getF fX6_19 h0.1 (dg tX6_bars 24 rfl) ?_
      refine WP.iload_n 1 (dg tX6_bars 25 rfl) rfl rfl ?_
      refine WP.putI fX6_216 h0.2.2.1.1 (dg tX6_bars 26 rfl) (fun M1 e_M1 => ?_)
      have h := h M1 e_M1
      refine WP.aload_n 0 (dg tX6_bars 27 rfl) rfl rfl ?_
      refine WP.callVi (As := []) (st := []) vX6_203 h0.1 rfl rfl ⟨Nat.le_of_ble_eq_true rfl, Nat.le_of_ble_eq_true rfl⟩ (Nat.le_of_ble_eq_true rfl) rfl (dg tX6_bars 28 rfl) h (fun v3 M2 h => ?_)
      refine WP.if_eq (tgt := 71) (dg tX6_bars 29 rfl) (by decide) (fun z => ?_) (fun z => ?_)
      · replace h := h.1 z
        obtain ⟨v4, e_v4⟩ : ∃ y : Int32, y = x1 + 1 := ⟨_, rfl⟩
        have h := h v4 e_v4
        refine WP.iinc (v := v4) (L2 := [(1, .int v4), (0, .ref x0)]) 1 (dg tX6_bars 36 rfl) rfl (by rw [e_v4]; rfl) (by decide) rfl ?_
        refine WP.goto (tgt := 30) (dg tX6_bars 37 rfl) (by decide) ?_
        refine WP.sub [1, 0] rfl ?_
        exact h
      · replace h := h.2 z
        refine WP.aload_n 0 (dg tX6_bars 30 rfl) rfl rfl ?_
        refine WP.getF fX6_19 h0.1 (dg tX6_bars 31 rfl) ?_
        refine WP.getF fX6_219 h0.2.2.1.1 (dg tX6_bars 32 rfl) ?_
        refine WP.iload_n 1 (dg tX6_bars 33 rfl) rfl rfl ?_
        obtain ⟨hb69, h⟩ := h
        refine WP.iald h0.2.2.1.2.1 hb69 (dg tX6_bars 34 rfl) ?_
        exact WP.iret rfl (dg tX6_bars 35 rfl) ⟨_, rfl, h⟩
theorem sg_X6_pieces_0 {T : Th} {M : Mm} {Q : Int32 → Mm → Prop} {x0 : Nat} {x1 : Int32} {x2 : Int32} (h0 : isX6 T x0)
    (h : (x1 < 0 → Q (-1) M) ∧ (¬ x1 < 0 → (2 < x1 → Q (-1) M) ∧ (¬ 2 < x1 → (x2 < 0 → Q (-1) M) ∧ (¬ x2 < 0 → (x2 ≤ 60 → WPv T mX2_copyFrom [.ref (x0 + 10), .ref ((x0 + 16) + 1)] M (fun M1 => ∀ r2 : Nat, r2 = M1.2.2 x0 7 → isX1 T r2 ∧ (WPi T mX1_lengthOn [.ref r2, .ref (x0 + 10), .int x1] M1 (fun v4 M3 => WP T mX6_pieces 51 [(0, .ref x0), (1, .int x1), (2, .int x2), (3, .int v4), (4, .int 0)] [] M3 (qi Q))))) ∧ (¬ x2 ≤ 60 → Q (-1) M))))) :
    WP T mX6_pieces 0 [(0, .ref x0), (1, .int x1), (2, .int x2)] [] M (qi Q) := by
  refine WP.iload_n 1 (dg tX6_pieces 0 rfl) rfl rfl ?_
  refine WP.if_lt (tgt := 19) (dg tX6_pieces 1 rfl) (by decide) (fun z => ?_) (fun z => ?_)
  · replace h := h.1 z
    refine WP.iconst (v := (-1)) (dg tX6_pieces 10 rfl) (by decide) ?_
    exact WP.iret rfl (dg tX6_pieces 11 rfl) ⟨_, rfl, h⟩
  · replace h := h.2 z
    refine WP.iload_n 1 (dg tX6_pieces 2 rfl) rfl rfl ?_
    refine WP.iconst (v := 2) (dg tX6_pieces 3 rfl) (by decide) ?_
    refine WP.icmp_gt (tgt := 19) (dg tX6_pieces 4 rfl) (by decide) (fun z => ?_) (fun z => ?_)
    · replace h := h.1 z
      refine WP.iconst (v := (-1)) (dg tX6_pieces 10 rfl) (by decide) ?_
      exact WP.iret rfl (dg tX6_pieces 11 rfl) ⟨_, rfl, h⟩
    · replace h := h.2 z
      refine WP.iload_n 2 (dg tX6_pieces 5 rfl) rfl rfl ?_
      refine WP.if_lt (tgt := 19) (dg tX6_pieces 6 rfl) (by decide) (fun z => ?_) (fun z => ?_)
      · replace h := h.1 z
        refine WP.iconst (v := (-1)) (dg tX6_pieces 10 rfl) (by decide) ?_
        exact WP.iret rfl (dg tX6_pieces 11 rfl) ⟨_, rfl, h⟩
      · replace h := h.2 z
        refine WP.iload_n 2 (dg tX6_pieces 7 rfl) rfl rfl ?_
        refine WP.bipush (v := 60) (dg tX6_pieces 8 rfl) (by decide) ?_
        refine WP.icmp_le (tgt := 21) (dg tX6_pieces 9 rfl) (by decide) (fun z => ?_) (fun z => ?_)
        · replace h := h.1 z
          refine WP.aload_n 0 (dg tX6_pieces 12 rfl) rfl rfl ?_
          refine WP.getF fX6_33 h0.1 (dg tX6_pieces 13 rfl) ?_
          refine WP.aload_n 0 (dg tX6_pieces 14 rfl) rfl rfl ?_
          refine WP.getF fX6_40 h0.1 (dg tX6_pieces 15 rfl) ?_
          refine WP.getF fX6_105 h0.2.2.2.2.2.1.1 (dg tX6_pieces 16 rfl) ?_
          refine WP.callVv (As := [.ref ((x0 + 16) + 1)]) (st := []) vX6_182 h0.2.2.2.2.1.1 rfl rfl ⟨Nat.le_of_ble_eq_true rfl, Nat.le_of_ble_eq_true rfl⟩ (Nat.le_of_ble_eq_true rfl) rfl (dg tX6_pieces 17 rfl) h (fun M1 h => ?_)
          refine WP.aload_n 0 (dg tX6_pieces 18 rfl) rfl rfl ?_
          refine WP.getR fX6_53 h0.1 (dg tX6_pieces 19 rfl) ?_
          refine WP.topr (fun r2 e_r2 => ?_)
          obtain ⟨o_r2, h⟩ := h r2 e_r2
          refine WP.aload_n 0 (dg tX6_pieces 20 rfl) rfl rfl ?_
          refine WP.getF fX6_33 h0.1 (dg tX6_pieces 21 rfl) ?_
          refine WP.iload_n 1 (dg tX6_pieces 22 rfl) rfl rfl ?_
          refine WP.callVi (As := [.ref (x0 + 10), .int x1]) (st := []) vX6_222 o_r2.1 rfl rfl ⟨Nat.le_of_ble_eq_true rfl, Nat.le_of_ble_eq_true rfl⟩ (Nat.le_of_ble_eq_true rfl) rfl (dg tX6_pieces 23 rfl) h (fun v4 M3 h => ?_)
          refine WP.istore_n (L2 := [(3, .int v4), (0, .ref x0), (1, .int x1), (2, .int x2)]) (dg tX6_pieces 24 rfl) rfl (by decide) rfl ?_
          refine WP.iconst (v := 0) (dg tX6_pieces 25 rfl) (by decide) ?_
          refine WP.istore (L2 := [(4, .int 0), (3, .int v4), (0, .ref x0), (1, .int x1), (2, .int x2)]) (dg tX6_pieces 26 rfl) (by decide) rfl ?_
          refine WP.sub [2, 3, 4, 1, 0] rfl ?_
          exact h
        · replace h := h.2 z
          refine WP.iconst (v := (-1)) (dg tX6_pieces 10 rfl) (by decide) ?_
          exact WP.iret rfl (dg tX6_pieces 11 rfl) ⟨_, rfl, h⟩
theorem sg_X6_pieces_51 {T : Th} {M : Mm} {Q : Int32 → Mm → Prop} {x0 : Nat} {x1 : Int32} {x2 : Int32} {x3 : Int32} {x4 : Int32} (h0 : isX6 T x0)
    (h : (x2 ≤ x4 → Q x3 M) ∧ (¬ x2 ≤ x4 → ∀ r1 : Nat, r1 = M.2.2 x0 7 → isX1 T r1 ∧ (WPi T mX1_pass [.ref r1, .ref (x0 + 10)] M (fun v3 M2 => ∀ r4 : Nat, r4 = M2.2.2 x0 7 → isX1 T r4 ∧ (WPi T mX1_lengthOn [.ref r4, .ref (x0 + 10), .int x1] M2 (fun v6 M5 => ∀ v7 : Int32, v7 = (if x3 < v6 then v6 else x3) → ∀ v8 : Int32, v8 = x4 + 1 → WP T mX6_pieces 51 [(0, .ref x0), (1, .int x1), (2, .int x2), (3, .int v7), (4, .int v8)] [] M5 (qi Q))))))) :
    WP T mX6_pieces 51 [(0, .ref x0), (1, .int x1), (2, .int x2), (3, .int x3), (4, .int x4)] [] M (qi Q) := by
  refine WP.iload 4 (dg tX6_pieces 27 rfl) rfl ?_
  refine WP.iload_n 2 (dg tX6_pieces 28 rfl) rfl rfl ?_
  refine WP.icmp_ge (tgt := 92) (dg tX6_pieces 29 rfl) (by decide) (fun z => ?_) (fun z => ?_)
  · replace h := h.1 z
    refine WP.iload_n 3 (dg tX6_pieces 47 rfl) rfl rfl ?_
    exact WP.iret rfl (dg tX6_pieces 48 rfl) ⟨_, rfl, h⟩
  · replace h := h.2 z
    refine WP.aload_n 0 (dg tX6_pieces 30 rfl) rfl rfl ?_
    refine WP.getR fX6_53 h0.1 (dg tX6_pieces 31 rfl) ?_
    refine WP.topr (fun r1 e_r1 => ?_)
    obtain ⟨o_r1, h⟩ := h r1 e_r1
    refine WP.aload_n 0 (dg tX6_pieces 32 rfl) rfl rfl ?_
    refine WP.getF fX6_33 h0.1 (dg tX6_pieces 33 rfl) ?_
    refine WP.callVi (As := [.ref (x0 + 10)]) (st := []) vX6_159 o_r1.1 rfl rfl ⟨Nat.le_of_ble_eq_true rfl, Nat.le_of_ble_eq_true rfl⟩ (Nat.le_of_ble_eq_true rfl) rfl (dg tX6_pieces 34 rfl) h (fun v3 M2 h => ?_)
    refine WP.pop (dg tX6_pieces 35 rfl) rfl ?_
    refine WP.iload_n 3 (dg tX6_pieces 36 rfl) rfl rfl ?_
    refine WP.aload_n 0 (dg tX6_pieces 37 rfl) rfl rfl ?_
    refine WP.getR fX6_53 h0.1 (dg tX6_pieces 38 rfl) ?_
    refine WP.topr (fun r4 e_r4 => ?_)
    obtain ⟨o_r4, h⟩ := h r4 e_r4
    refine WP.aload_n 0 (dg tX6_pieces 39 rfl) rfl rfl ?_
    refine WP.getF fX6_33 h0.1 (dg tX6_pieces 40 rfl) ?_
    refine WP.iload_n 1 (dg tX6_pieces 41 rfl) rfl rfl ?_
    refine WP.callVi (As := [.ref (x0 + 10), .int x1]) (st := [.int x3]) vX6_222 o_r4.1 rfl rfl ⟨Nat.le_of_ble_eq_true rfl, Nat.le_of_ble_eq_true rfl⟩ (Nat.le_of_ble_eq_true rfl) rfl (dg tX6_pieces 42 rfl) h (fun v6 M5 h => ?_)
    refine WP.mmax vX6_226 (by decide) (Nat.le_of_ble_eq_true rfl) (dg tX6_pieces 43 rfl) ?_
    refine WP.topi (fun v7 e_v7 => ?_)
    have h := h v7 e_v7
    refine WP.istore_n (L2 := [(3, .int v7), (0, .ref x0), (1, .int x1), (2, .int x2), (4, .int x4)]) (dg tX6_pieces 44 rfl) rfl (by decide) rfl ?_
    obtain ⟨v8, e_v8⟩ : ∃ y : Int32, y = x4 + 1 := ⟨_, rfl⟩
    have h := h v8 e_v8
    refine WP.iinc (v := v8) (L2 := [(4, .int v8), (3, .int v7), (0, .ref x0), (1, .int x1), (2, .int x2)]) 4 (dg tX6_pieces 45 rfl) rfl (by rw [e_v8]; rfl) (by decide) rfl ?_
    refine WP.goto (tgt := 51) (dg tX6_pieces 46 rfl) (by decide) ?_
    refine WP.sub [2, 3, 4, 1, 0] rfl ?_
    exact h
theorem sg_X6_met_0 {T : Th} {M : Mm} {Q : Int32 → Mm → Prop} {x0 : Nat} {x1 : Int32} {x2 : Int32} (h0 : isX6 T x0)
    (h : ∀ r1 : Nat, r1 = M.2.2 x0 7 → isX1 T r1 ∧ (WPi T mX1_hasPlace [.ref r1, .int x1] M (fun v3 M2 => (v3 = 0 → Q (-1) M2) ∧ (¬ v3 = 0 → (x2 < 0 → Q (-1) M2) ∧ (¬ x2 < 0 → (x2 ≤ 99 → ∀ r4 : Nat, r4 = M2.2.2 x0 7 → isX1 T r4 ∧ (WPv T mX2_copyFrom [.ref (x0 + 10), .ref (r4 + 6)] M2 (fun M5 => WP T mX6_met 39 [(0, .ref x0), (1, .int x1), (2, .int x2), (3, .int 0)] [] M5 (qi Q)))) ∧ (¬ x2 ≤ 99 → Q (-1) M2)))))) :
    WP T mX6_met 0 [(0, .ref x0), (1, .int x1), (2, .int x2)] [] M (qi Q) := by
  refine WP.aload_n 0 (dg tX6_met 0 rfl) rfl rfl ?_
  refine WP.getR fX6_53 h0.1 (dg tX6_met 1 rfl) ?_
  refine WP.topr (fun r1 e_r1 => ?_)
  obtain ⟨o_r1, h⟩ := h r1 e_r1
  refine WP.iload_n 1 (dg tX6_met 2 rfl) rfl rfl ?_
  refine WP.callVi (As := [.int x1]) (st := []) vX6_89 o_r1.1 rfl rfl ⟨Nat.le_of_ble_eq_true rfl, Nat.le_of_ble_eq_true rfl⟩ (Nat.le_of_ble_eq_true rfl) rfl (dg tX6_met 3 rfl) h (fun v3 M2 h => ?_)
  refine WP.if_eq (tgt := 21) (dg tX6_met 4 rfl) (by decide) (fun z => ?_) (fun z => ?_)
  · replace h := h.1 z
    refine WP.iconst (v := (-1)) (dg tX6_met 10 rfl) (by decide) ?_
    exact WP.iret rfl (dg tX6_met 11 rfl) ⟨_, rfl, h⟩
  · replace h := h.2 z
    refine WP.iload_n 2 (dg tX6_met 5 rfl) rfl rfl ?_
    refine WP.if_lt (tgt := 21) (dg tX6_met 6 rfl) (by decide) (fun z => ?_) (fun z => ?_)
    · replace h := h.1 z
      refine WP.iconst (v := (-1)) (dg tX6_met 10 rfl) (by decide) ?_
      exact WP.iret rfl (dg tX6_met 11 rfl) ⟨_, rfl, h⟩
    · replace h := h.2 z
      refine WP.iload_n 2 (dg tX6_met 7 rfl) rfl rfl ?_
      refine WP.bipush (v := 99) (dg tX6_met 8 rfl) (by decide) ?_
      refine WP.icmp_le (tgt := 23) (dg tX6_met 9 rfl) (by decide) (fun z => ?_) (fun z => ?_)
      · replace h := h.1 z
        refine WP.aload_n 0 (dg tX6_met 12 rfl) rfl rfl ?_
        refine WP.getF fX6_33 h0.1 (dg tX6_met 13 rfl) ?_
        refine WP.aload_n 0 (dg tX6_met 14 rfl) rfl rfl ?_
        refine WP.getR fX6_53 h0.1 (dg tX6_met 15 rfl) ?_
        refine WP.topr (fun r4 e_r4 => ?_)
        obtain ⟨o_r4, h⟩ := h r4 e_r4
        refine WP.getF fX6_78 o_r4.1 (dg tX6_met 16 rfl) ?_
        refine WP.callVv (As := [.ref (r4 + 6)]) (st := []) vX6_182 h0.2.2.2.2.1.1 rfl rfl ⟨Nat.le_of_ble_eq_true rfl, Nat.le_of_ble_eq_true rfl⟩ (Nat.le_of_ble_eq_true rfl) rfl (dg tX6_met 17 rfl) h (fun M5 h => ?_)
        refine WP.iconst (v := 0) (dg tX6_met 18 rfl) (by decide) ?_
        refine WP.istore_n (L2 := [(3, .int 0), (0, .ref x0), (1, .int x1), (2, .int x2)]) (dg tX6_met 19 rfl) rfl (by decide) rfl ?_
        refine WP.sub [1, 2, 3, 0] rfl ?_
        exact h
      · replace h := h.2 z
        refine WP.iconst (v := (-1)) (dg tX6_met 10 rfl) (by decide) ?_
        exact WP.iret rfl (dg tX6_met 11 rfl) ⟨_, rfl, h⟩
theorem sg_X6_met_39 {T : Th} {M : Mm} {Q : Int32 → Mm → Prop} {x0 : Nat} {x1 : Int32} {x2 : Int32} {x3 : Int32} (h0 : isX6 T x0)
    (h : (x2 ≤ x3 → ∀ r1 : Nat, r1 = M.2.2 x0 7 → isX1 T r1 ∧ (WPi T mX1_wagonsAt [.ref r1, .ref (x0 + 10), .int x1] M (fun v3 M2 => Q (v3 &&& ((M2.1 (x0 + 10) 1) ^^^ (-1))) M2))) ∧ (¬ x2 ≤ x3 → ∀ r1 : Nat, r1 = M.2.2 x0 7 → isX1 T r1 ∧ (WPi T mX1_pass [.ref r1, .ref (x0 + 10)] M (fun v3 M2 => ∀ v4 : Int32, v4 = x3 + 1 → WP T mX6_met 39 [(0, .ref x0), (1, .int x1), (2, .int x2), (3, .int v4)] [] M2 (qi Q))))) :
    WP T mX6_met 39 [(0, .ref x0), (1, .int x1), (2, .int x2), (3, .int x3)] [] M (qi Q) := by
  refine WP.iload_n 3 (dg tX6_met 20 rfl) rfl rfl ?_
  refine WP.iload_n 2 (dg tX6_met 21 rfl) rfl rfl ?_
  refine WP.icmp_ge (tgt := 62) (dg tX6_met 22 rfl) (by decide) (fun z => ?_) (fun z => ?_)
  · replace h := h.1 z
    refine WP.aload_n 0 (dg tX6_met 31 rfl) rfl rfl ?_
    refine WP.getR fX6_53 h0.1 (dg tX6_met 32 rfl) ?_
    refine WP.topr (fun r1 e_r1 => ?_)
    obtain ⟨o_r1, h⟩ := h r1 e_r1
    refine WP.aload_n 0 (dg tX6_met 33 rfl) rfl rfl ?_
    refine WP.getF fX6_33 h0.1 (dg tX6_met 34 rfl) ?_
    refine WP.iload_n 1 (dg tX6_met 35 rfl) rfl rfl ?_
    refine WP.callVi (As := [.ref (x0 + 10), .int x1]) (st := []) vX6_229 o_r1.1 rfl rfl ⟨Nat.le_of_ble_eq_true rfl, Nat.le_of_ble_eq_true rfl⟩ (Nat.le_of_ble_eq_true rfl) rfl (dg tX6_met 36 rfl) h (fun v3 M2 h => ?_)
    refine WP.aload_n 0 (dg tX6_met 37 rfl) rfl rfl ?_
    refine WP.getF fX6_33 h0.1 (dg tX6_met 38 rfl) ?_
    refine WP.getI fX6_144 h0.2.2.2.2.1.1 (dg tX6_met 39 rfl) ?_
    refine WP.iconst (v := (-1)) (dg tX6_met 40 rfl) (by decide) ?_
    refine WP.ixor (dg tX6_met 41 rfl) ?_
    refine WP.iand (dg tX6_met 42 rfl) ?_
    exact WP.iret rfl (dg tX6_met 43 rfl) ⟨_, rfl, h⟩
  · replace h := h.2 z
    refine WP.aload_n 0 (dg tX6_met 23 rfl) rfl rfl ?_
    refine WP.getR fX6_53 h0.1 (dg tX6_met 24 rfl) ?_
    refine WP.topr (fun r1 e_r1 => ?_)
    obtain ⟨o_r1, h⟩ := h r1 e_r1
    refine WP.aload_n 0 (dg tX6_met 25 rfl) rfl rfl ?_
    refine WP.getF fX6_33 h0.1 (dg tX6_met 26 rfl) ?_
    refine WP.callVi (As := [.ref (x0 + 10)]) (st := []) vX6_159 o_r1.1 rfl rfl ⟨Nat.le_of_ble_eq_true rfl, Nat.le_of_ble_eq_true rfl⟩ (Nat.le_of_ble_eq_true rfl) rfl (dg tX6_met 27 rfl) h (fun v3 M2 h => ?_)
    refine WP.pop (dg tX6_met 28 rfl) rfl ?_
    obtain ⟨v4, e_v4⟩ : ∃ y : Int32, y = x3 + 1 := ⟨_, rfl⟩
    have h := h v4 e_v4
    refine WP.iinc (v := v4) (L2 := [(3, .int v4), (0, .ref x0), (1, .int x1), (2, .int x2)]) 3 (dg tX6_met 29 rfl) rfl (by rw [e_v4]; rfl) (by decide) rfl ?_
    refine WP.goto (tgt := 39) (dg tX6_met 30 rfl) (by decide) ?_
    refine WP.sub [1, 2, 3, 0] rfl ?_
    exact h
theorem sg_X6_odds_0 {T : Th} {M : Mm} {Q : Int64 → Mm → Prop} {x0 : Nat} {x1 : Int32} {x2 : Int32} {x3 : Int32} {x4 : Int32} (h0 : isX6 T x0)
    (h : WPi T mX6_isChance [.ref x0, .int x1, .int x2, .int x3] M (fun v2 M1 => (v2 = 0 → Q (-1) M1) ∧ (¬ v2 = 0 → (x4 < 0 → Q (-1) M1) ∧ (¬ x4 < 0 → (x4 ≤ 1 → WPi T mX2_isCaught [.ref ((x0 + 16) + 1), .int x1] M1 (fun v4 M3 => (v4 = 0 → ∀ r5 : Nat, r5 = M3.2.2 x0 7 → isX1 T r5 ∧ (WPv T mX0_foresee [.ref (x0 + 7), .ref r5, .ref ((x0 + 16) + 1), .int x1] M3 (fun M6 => ∀ r7 : Nat, r7 = M6.2.2 x0 7 → isX1 T r7 ∧ (∀ r8 : Nat, r8 = M6.2.2 x0 7 → isX1 T r8 ∧ (WPl T mX0_runsAhead [.ref (x0 + 7), .ref r7, .int x2, .int x3, .int (M6.1 r8 2)] M6 (fun v10 M9 => WPl T mX6_powerOfTen [.int x3] M9 (fun v12 M11 => WPl T mX6_commonDivisor [.long v12, .long v10] M11 (fun v14 M13 => ∀ v15 : Int64, v15 = (if v14 < 1 then 1 else v14) → (¬ x4 = 0 → ¬ v15 = 0 ∧ (Q (v12 / v15) M13)) ∧ (x4 = 0 → ¬ v15 = 0 ∧ (Q (v10 / v15) M13)))))))))) ∧ (¬ v4 = 0 → Q (-2) M3))) ∧ (¬ x4 ≤ 1 → Q (-1) M1))))) :
    WP T mX6_odds 0 [(0, .ref x0), (1, .int x1), (2, .int x2), (3, .int x3), (4, .int x4)] [] M (ql Q) := by
  refine WP.aload_n 0 (dg tX6_odds 0 rfl) rfl rfl ?_
  refine WP.iload_n 1 (dg tX6_odds 1 rfl) rfl rfl ?_
  refine WP.iload_n 2 (dg tX6_odds 2 rfl) rfl rfl ?_
  refine WP.iload_n 3 (dg tX6_odds 3 rfl) rfl rfl ?_
  refine WP.callVi (As := [.int x1, .int x2, .int x3]) (st := []) vX6_232 h0.1 rfl rfl ⟨Nat.le_of_ble_eq_true rfl, Nat.le_of_ble_eq_true rfl⟩ (Nat.le_of_ble_eq_true rfl) rfl (dg tX6_odds 4 rfl) h (fun v2 M1 h => ?_)
  refine WP.if_eq (tgt := 21) (dg tX6_odds 5 rfl) (by decide) (fun z => ?_) (fun z => ?_)
  · replace h := h.1 z
    refine WP.ldc2 (v := (-1)) kX6_236 (dg tX6_odds 11 rfl) ?_
    exact WP.lret rfl (dg tX6_odds 12 rfl) ⟨_, rfl, h⟩
  · replace h := h.2 z
    refine WP.iload 4 (dg tX6_odds 6 rfl) rfl ?_
    refine WP.if_lt (tgt := 21) (dg tX6_odds 7 rfl) (by decide) (fun z => ?_) (fun z => ?_)
    · replace h := h.1 z
      refine WP.ldc2 (v := (-1)) kX6_236 (dg tX6_odds 11 rfl) ?_
      exact WP.lret rfl (dg tX6_odds 12 rfl) ⟨_, rfl, h⟩
    · replace h := h.2 z
      refine WP.iload 4 (dg tX6_odds 8 rfl) rfl ?_
      refine WP.iconst (v := 1) (dg tX6_odds 9 rfl) (by decide) ?_
      refine WP.icmp_le (tgt := 25) (dg tX6_odds 10 rfl) (by decide) (fun z => ?_) (fun z => ?_)
      · replace h := h.1 z
        refine WP.aload_n 0 (dg tX6_odds 13 rfl) rfl rfl ?_
        refine WP.getF fX6_40 h0.1 (dg tX6_odds 14 rfl) ?_
        refine WP.getF fX6_105 h0.2.2.2.2.2.1.1 (dg tX6_odds 15 rfl) ?_
        refine WP.iload_n 1 (dg tX6_odds 16 rfl) rfl rfl ?_
        refine WP.callVi (As := [.int x1]) (st := []) vX6_129 h0.2.2.2.2.2.1.2.1.1 rfl rfl ⟨Nat.le_of_ble_eq_true rfl, Nat.le_of_ble_eq_true rfl⟩ (Nat.le_of_ble_eq_true rfl) rfl (dg tX6_odds 17 rfl) h (fun v4 M3 h => ?_)
        refine WP.if_eq (tgt := 43) (dg tX6_odds 18 rfl) (by decide) (fun z => ?_) (fun z => ?_)
        · replace h := h.1 z
          refine WP.aload_n 0 (dg tX6_odds 21 rfl) rfl rfl ?_
          refine WP.getF fX6_26 h0.1 (dg tX6_odds 22 rfl) ?_
          refine WP.aload_n 0 (dg tX6_odds 23 rfl) rfl rfl ?_
          refine WP.getR fX6_53 h0.1 (dg tX6_odds 24 rfl) ?_
          refine WP.topr (fun r5 e_r5 => ?_)
          obtain ⟨o_r5, h⟩ := h r5 e_r5
          refine WP.aload_n 0 (dg tX6_odds 25 rfl) rfl rfl ?_
          refine WP.getF fX6_40 h0.1 (dg tX6_odds 26 rfl) ?_
          refine WP.getF fX6_105 h0.2.2.2.2.2.1.1 (dg tX6_odds 27 rfl) ?_
          refine WP.iload_n 1 (dg tX6_odds 28 rfl) rfl rfl ?_
          refine WP.callVv (As := [.ref r5, .ref ((x0 + 16) + 1), .int x1]) (st := []) vX6_240 h0.2.2.2.1.1 rfl rfl ⟨Nat.le_of_ble_eq_true rfl, Nat.le_of_ble_eq_true rfl⟩ (Nat.le_of_ble_eq_true rfl) rfl (dg tX6_odds 29 rfl) h (fun M6 h => ?_)
          refine WP.aload_n 0 (dg tX6_odds 30 rfl) rfl rfl ?_
          refine WP.getF fX6_26 h0.1 (dg tX6_odds 31 rfl) ?_
          refine WP.aload_n 0 (dg tX6_odds 32 rfl) rfl rfl ?_
          refine WP.getR fX6_53 h0.1 (dg tX6_odds 33 rfl) ?_
          refine WP.topr (fun r7 e_r7 => ?_)
          obtain ⟨o_r7, h⟩ := h r7 e_r7
          refine WP.iload_n 2 (dg tX6_odds 34 rfl) rfl rfl ?_
          refine WP.iload_n 3 (dg tX6_odds 35 rfl) rfl rfl ?_
          refine WP.aload_n 0 (dg tX6_odds 36 rfl) rfl rfl ?_
          refine WP.getR fX6_53 h0.1 (dg tX6_odds 37 rfl) ?_
          refine WP.topr (fun r8 e_r8 => ?_)
          obtain ⟨o_r8, h⟩ := h r8 e_r8
          refine WP.getI fX6_141 o_r8.1 (dg tX6_odds 38 rfl) ?_
          refine WP.callVl (As := [.ref r7, .int x2, .int x3, .int (M6.1 r8 2)]) (st := []) vX6_244 h0.2.2.2.1.1 rfl rfl ⟨Nat.le_of_ble_eq_true rfl, Nat.le_of_ble_eq_true rfl⟩ (Nat.le_of_ble_eq_true rfl) rfl (dg tX6_odds 39 rfl) h (fun v10 M9 h => ?_)
          refine WP.lstore (L2 := [(5, .long v10), (0, .ref x0), (1, .int x1), (2, .int x2), (3, .int x3), (4, .int x4)]) (dg tX6_odds 40 rfl) (by decide) rfl ?_
          refine WP.iload_n 4 (dg tX6_odds 41 rfl) rfl rfl ?_
          refine WP.callSl (As := [.int x3]) (st := []) vX6_248 rfl ⟨Nat.le_of_ble_eq_true rfl, Nat.le_of_ble_eq_true rfl⟩ (Nat.le_of_ble_eq_true rfl) rfl (dg tX6_odds 42 rfl) h (fun v12 M11 h => ?_)
          refine WP.lstore (L2 := [(7, .long v12), (5, .long v10), (0, .ref x0), (1, .int x1), (2, .int x2), (3, .int x3), (4, .int x4)]) (dg tX6_odds 43 rfl) (by decide) rfl ?_
          refine WP.lconst (v := 1) (dg tX6_odds 44 rfl) (by decide) ?_
          refine WP.lload 0 (dg tX6_odds 45 rfl) rfl ?_
          refine WP.lload 1 (dg tX6_odds 46 rfl) rfl ?_
          refine WP.callSl (As := [.long v12, .long v10]) (st := [.long 1]) vX6_252 rfl ⟨Nat.le_of_ble_eq_true rfl, Nat.le_of_ble_eq_true rfl⟩ (Nat.le_of_ble_eq_true rfl) rfl (dg tX6_odds 47 rfl) h (fun v14 M13 h => ?_)
          refine WP.mmaxl vX6_256 (by decide) (Nat.le_of_ble_eq_true rfl) (dg tX6_odds 48 rfl) ?_
          refine WP.topl (fun v15 e_v15 => ?_)
          have h := h v15 e_v15
          refine WP.lstore (L2 := [(9, .long v15), (7, .long v12), (5, .long v10), (0, .ref x0), (1, .int x1), (2, .int x2), (3, .int x3), (4, .int x4)]) (dg tX6_odds 49 rfl) (by decide) rfl ?_
          refine WP.iload 7 (dg tX6_odds 50 rfl) rfl ?_
          refine WP.if_ne (tgt := 113) (dg tX6_odds 51 rfl) (by decide) (fun z => ?_) (fun z => ?_)
          · replace h := h.1 z
            refine WP.lload 1 (dg tX6_odds 54 rfl) rfl ?_
            refine WP.lload 0 (dg tX6_odds 55 rfl) rfl ?_
            obtain ⟨hz117, h⟩ := h
            refine WP.ldiv (dg tX6_odds 56 rfl) hz117 ?_
            exact WP.lret rfl (dg tX6_odds 57 rfl) ⟨_, rfl, h⟩
          · replace h := h.2 z
            refine WP.lload 2 (dg tX6_odds 52 rfl) rfl ?_
            refine WP.goto (tgt := 115) (dg tX6_odds 53 rfl) (by decide) ?_
            refine WP.lload 0 (dg tX6_odds 55 rfl) rfl ?_
            obtain ⟨hz117, h⟩ := h
            refine WP.ldiv (dg tX6_odds 56 rfl) hz117 ?_
            exact WP.lret rfl (dg tX6_odds 57 rfl) ⟨_, rfl, h⟩
        · replace h := h.2 z
          refine WP.ldc2 (v := (-2)) kX6_238 (dg tX6_odds 19 rfl) ?_
          exact WP.lret rfl (dg tX6_odds 20 rfl) ⟨_, rfl, h⟩
      · replace h := h.2 z
        refine WP.ldc2 (v := (-1)) kX6_236 (dg tX6_odds 11 rfl) ?_
        exact WP.lret rfl (dg tX6_odds 12 rfl) ⟨_, rfl, h⟩
theorem sg_X6_keepAhead_0 {T : Th} {M : Mm} {Q : Int32 → Mm → Prop} {x0 : Nat} {x1 : Int32} {x2 : Int32} {x3 : Int32} {x4 : Int32} (h0 : isX6 T x0)
    (h : WPi T mX6_isChance [.ref x0, .int x1, .int x2, .int x3] M (fun v2 M1 => (v2 = 0 → Q (-1) M1) ∧ (¬ v2 = 0 → (x4 < 0 → Q (-1) M1) ∧ (¬ x4 < 0 → (x4 ≤ 10 → WPi T mX2_isCaught [.ref ((x0 + 16) + 1), .int x1] M1 (fun v4 M3 => (v4 = 0 → ∀ r5 : Nat, r5 = M3.2.2 x0 7 → isX1 T r5 ∧ (WPv T mX0_foresee [.ref (x0 + 7), .ref r5, .ref ((x0 + 16) + 1), .int x1] M3 (fun M6 => WPl T mX6_powerOfTen [.int x3] M6 (fun v8 M7 => ∀ v9 : Int64, v9 = x4.toInt64 * v8 → WP T mX6_keepAhead 74 [(0, .ref x0), (2, .int x2), (3, .int x3), (5, .long v9), (7, .int 20)] [] M7 (qi Q))))) ∧ (¬ v4 = 0 → Q (-2) M3))) ∧ (¬ x4 ≤ 10 → Q (-1) M1))))) :
    WP T mX6_keepAhead 0 [(0, .ref x0), (1, .int x1), (2, .int x2), (3, .int x3), (4, .int x4)] [] M (qi Q) := by
  refine WP.aload_n 0 (dg tX6_keepAhead 0 rfl) rfl rfl ?_
  refine WP.iload_n 1 (dg tX6_keepAhead 1 rfl) rfl rfl ?_
  refine WP.iload_n 2 (dg tX6_keepAhead 2 rfl) rfl rfl ?_
  refine WP.iload_n 3 (dg tX6_keepAhead 3 rfl) rfl rfl ?_
  refine WP.callVi (As := [.int x1, .int x2, .int x3]) (st := []) vX6_232 h0.1 rfl rfl ⟨Nat.le_of_ble_eq_true rfl, Nat.le_of_ble_eq_true rfl⟩ (Nat.le_of_ble_eq_true rfl) rfl (dg tX6_keepAhead 4 rfl) h (fun v2 M1 h => ?_)
  refine WP.if_eq (tgt := 22) (dg tX6_keepAhead 5 rfl) (by decide) (fun z => ?_) (fun z => ?_)
  · replace h := h.1 z
    refine WP.iconst (v := (-1)) (dg tX6_keepAhead 11 rfl) (by decide) ?_
    exact WP.iret rfl (dg tX6_keepAhead 12 rfl) ⟨_, rfl, h⟩
  · replace h := h.2 z
    refine WP.iload 4 (dg tX6_keepAhead 6 rfl) rfl ?_
    refine WP.if_lt (tgt := 22) (dg tX6_keepAhead 7 rfl) (by decide) (fun z => ?_) (fun z => ?_)
    · replace h := h.1 z
      refine WP.iconst (v := (-1)) (dg tX6_keepAhead 11 rfl) (by decide) ?_
      exact WP.iret rfl (dg tX6_keepAhead 12 rfl) ⟨_, rfl, h⟩
    · replace h := h.2 z
      refine WP.iload 4 (dg tX6_keepAhead 8 rfl) rfl ?_
      refine WP.bipush (v := 10) (dg tX6_keepAhead 9 rfl) (by decide) ?_
      refine WP.icmp_le (tgt := 24) (dg tX6_keepAhead 10 rfl) (by decide) (fun z => ?_) (fun z => ?_)
      · replace h := h.1 z
        refine WP.aload_n 0 (dg tX6_keepAhead 13 rfl) rfl rfl ?_
        refine WP.getF fX6_40 h0.1 (dg tX6_keepAhead 14 rfl) ?_
        refine WP.getF fX6_105 h0.2.2.2.2.2.1.1 (dg tX6_keepAhead 15 rfl) ?_
        refine WP.iload_n 1 (dg tX6_keepAhead 16 rfl) rfl rfl ?_
        refine WP.callVi (As := [.int x1]) (st := []) vX6_129 h0.2.2.2.2.2.1.2.1.1 rfl rfl ⟨Nat.le_of_ble_eq_true rfl, Nat.le_of_ble_eq_true rfl⟩ (Nat.le_of_ble_eq_true rfl) rfl (dg tX6_keepAhead 17 rfl) h (fun v4 M3 h => ?_)
        refine WP.if_eq (tgt := 41) (dg tX6_keepAhead 18 rfl) (by decide) (fun z => ?_) (fun z => ?_)
        · replace h := h.1 z
          refine WP.aload_n 0 (dg tX6_keepAhead 21 rfl) rfl rfl ?_
          refine WP.getF fX6_26 h0.1 (dg tX6_keepAhead 22 rfl) ?_
          refine WP.aload_n 0 (dg tX6_keepAhead 23 rfl) rfl rfl ?_
          refine WP.getR fX6_53 h0.1 (dg tX6_keepAhead 24 rfl) ?_
          refine WP.topr (fun r5 e_r5 => ?_)
          obtain ⟨o_r5, h⟩ := h r5 e_r5
          refine WP.aload_n 0 (dg tX6_keepAhead 25 rfl) rfl rfl ?_
          refine WP.getF fX6_40 h0.1 (dg tX6_keepAhead 26 rfl) ?_
          refine WP.getF fX6_105 h0.2.2.2.2.2.1.1 (dg tX6_keepAhead 27 rfl) ?_
          refine WP.iload_n 1 (dg tX6_keepAhead 28 rfl) rfl rfl ?_
          refine WP.callVv (As := [.ref r5, .ref ((x0 + 16) + 1), .int x1]) (st := []) vX6_240 h0.2.2.2.1.1 rfl rfl ⟨Nat.le_of_ble_eq_true rfl, Nat.le_of_ble_eq_true rfl⟩ (Nat.le_of_ble_eq_true rfl) rfl (dg tX6_keepAhead 29 rfl) h (fun M6 h => ?_)
          refine WP.iload 4 (dg tX6_keepAhead 30 rfl) rfl ?_
          refine WP.i2l (dg tX6_keepAhead 31 rfl) ?_
          refine WP.iload_n 3 (dg tX6_keepAhead 32 rfl) rfl rfl ?_
          refine WP.callSl (As := [.int x3]) (st := [.long x4.toInt64]) vX6_248 rfl ⟨Nat.le_of_ble_eq_true rfl, Nat.le_of_ble_eq_true rfl⟩ (Nat.le_of_ble_eq_true rfl) rfl (dg tX6_keepAhead 33 rfl) h (fun v8 M7 h => ?_)
          refine WP.lmul (dg tX6_keepAhead 34 rfl) ?_
          refine WP.topl (fun v9 e_v9 => ?_)
          have h := h v9 e_v9
          refine WP.lstore (L2 := [(5, .long v9), (0, .ref x0), (1, .int x1), (2, .int x2), (3, .int x3), (4, .int x4)]) (dg tX6_keepAhead 35 rfl) (by decide) rfl ?_
          refine WP.bipush (v := 20) (dg tX6_keepAhead 36 rfl) (by decide) ?_
          refine WP.istore (L2 := [(7, .int 20), (5, .long v9), (0, .ref x0), (1, .int x1), (2, .int x2), (3, .int x3), (4, .int x4)]) (dg tX6_keepAhead 37 rfl) (by decide) rfl ?_
          refine WP.sub [2, 4, 5, 1, 0] rfl ?_
          exact h
        · replace h := h.2 z
          refine WP.bipush (v := (-2)) (dg tX6_keepAhead 19 rfl) (by decide) ?_
          exact WP.iret rfl (dg tX6_keepAhead 20 rfl) ⟨_, rfl, h⟩
      · replace h := h.2 z
        refine WP.iconst (v := (-1)) (dg tX6_keepAhead 11 rfl) (by decide) ?_
        exact WP.iret rfl (dg tX6_keepAhead 12 rfl) ⟨_, rfl, h⟩
theorem sg_X6_keepAhead_74 {T : Th} {M : Mm} {Q : Int32 → Mm → Prop} {x0 : Nat} {x2 : Int32} {x3 : Int32} {x5 : Int64} {x7 : Int32} (h0 : isX6 T x0)
    (h : (x7 < 0 → Q (-9) M) ∧ (¬ x7 < 0 → ∀ r1 : Nat, r1 = M.2.2 x0 7 → isX1 T r1 ∧ (∀ r2 : Nat, r2 = M.2.2 x0 7 → isX1 T r2 ∧ (WPl T mX0_runsAhead [.ref (x0 + 7), .ref r1, .int x2, .int x3, .int ((M.1 r2 2) - x7)] M (fun v4 M3 => ((lg_cmp (10 * v4) x5) < 0 → ∀ v5 : Int32, v5 = x7 + (-1) → WP T mX6_keepAhead 74 [(0, .ref x0), (2, .int x2), (3, .int x3), (5, .long x5), (7, .int v5)] [] M3 (qi Q)) ∧ (¬ (lg_cmp (10 * v4) x5) < 0 → Q x7 M3)))))) :
    WP T mX6_keepAhead 74 [(0, .ref x0), (2, .int x2), (3, .int x3), (5, .long x5), (7, .int x7)] [] M (qi Q) := by
  refine WP.iload 4 (dg tX6_keepAhead 38 rfl) rfl ?_
  refine WP.if_lt (tgt := 121) (dg tX6_keepAhead 39 rfl) (by decide) (fun z => ?_) (fun z => ?_)
  · replace h := h.1 z
    refine WP.bipush (v := (-9)) (dg tX6_keepAhead 61 rfl) (by decide) ?_
    exact WP.iret rfl (dg tX6_keepAhead 62 rfl) ⟨_, rfl, h⟩
  · replace h := h.2 z
    refine WP.ldc2 (v := 10) kX6_258 (dg tX6_keepAhead 40 rfl) ?_
    refine WP.aload_n 0 (dg tX6_keepAhead 41 rfl) rfl rfl ?_
    refine WP.getF fX6_26 h0.1 (dg tX6_keepAhead 42 rfl) ?_
    refine WP.aload_n 0 (dg tX6_keepAhead 43 rfl) rfl rfl ?_
    refine WP.getR fX6_53 h0.1 (dg tX6_keepAhead 44 rfl) ?_
    refine WP.topr (fun r1 e_r1 => ?_)
    obtain ⟨o_r1, h⟩ := h r1 e_r1
    refine WP.iload_n 1 (dg tX6_keepAhead 45 rfl) rfl rfl ?_
    refine WP.iload_n 2 (dg tX6_keepAhead 46 rfl) rfl rfl ?_
    refine WP.aload_n 0 (dg tX6_keepAhead 47 rfl) rfl rfl ?_
    refine WP.getR fX6_53 h0.1 (dg tX6_keepAhead 48 rfl) ?_
    refine WP.topr (fun r2 e_r2 => ?_)
    obtain ⟨o_r2, h⟩ := h r2 e_r2
    refine WP.getI fX6_141 o_r2.1 (dg tX6_keepAhead 49 rfl) ?_
    refine WP.iload 4 (dg tX6_keepAhead 50 rfl) rfl ?_
    refine WP.isub (dg tX6_keepAhead 51 rfl) ?_
    refine WP.callVl (As := [.ref r1, .int x2, .int x3, .int ((M.1 r2 2) - x7)]) (st := [.long 10]) vX6_244 h0.2.2.2.1.1 rfl rfl ⟨Nat.le_of_ble_eq_true rfl, Nat.le_of_ble_eq_true rfl⟩ (Nat.le_of_ble_eq_true rfl) rfl (dg tX6_keepAhead 52 rfl) h (fun v4 M3 h => ?_)
    refine WP.lmul (dg tX6_keepAhead 53 rfl) ?_
    refine WP.lload 3 (dg tX6_keepAhead 54 rfl) rfl ?_
    refine WP.lcmp (dg tX6_keepAhead 55 rfl) ?_
    refine WP.if_lt (tgt := 115) (dg tX6_keepAhead 56 rfl) (by decide) (fun z => ?_) (fun z => ?_)
    · replace h := h.1 z
      obtain ⟨v5, e_v5⟩ : ∃ y : Int32, y = x7 + (-1) := ⟨_, rfl⟩
      have h := h v5 e_v5
      refine WP.iinc (v := v5) (L2 := [(7, .int v5), (0, .ref x0), (2, .int x2), (3, .int x3), (5, .long x5)]) 4 (dg tX6_keepAhead 59 rfl) rfl (by rw [e_v5]; rfl) (by decide) rfl ?_
      refine WP.goto (tgt := 74) (dg tX6_keepAhead 60 rfl) (by decide) ?_
      refine WP.sub [1, 2, 3, 4, 0] rfl ?_
      exact h
    · replace h := h.2 z
      refine WP.iload 4 (dg tX6_keepAhead 57 rfl) rfl ?_
      exact WP.iret rfl (dg tX6_keepAhead 58 rfl) ⟨_, rfl, h⟩
theorem sg_X6_mark_0 {T : Th} {M : Mm} {Q : Int32 → Mm → Prop} {x0 : Nat} {x1 : Int32} {x2 : Int32} (h0 : isX6 T x0)
    (h : (x1 < 0 → Q (-1000000) M) ∧ (¬ x1 < 0 → (5 < x1 → Q (-1000000) M) ∧ (¬ 5 < x1 → ∀ r1 : Nat, r1 = M.2.2 x0 7 → isX1 T r1 ∧ (WPi T mX1_hasWagon [.ref r1, .int x2] M (fun v3 M2 => (¬ v3 = 0 → (x1 = 0 → WPi T mX6_wagonMark [.ref x0, .int x2] M2 (fun v5 M4 => Q v5 M4)) ∧ (x1 = 1 → WPi T mX6_forgeMark [.ref x0, .int x2] M2 (fun v5 M4 => Q v5 M4)) ∧ (x1 = 2 → WPi T mX6_chapelMark [.ref x0, .int x2] M2 (fun v5 M4 => Q v5 M4)) ∧ (x1 = 3 → WPi T mX6_tenderMark [.ref x0, .int x2] M2 (fun v5 M4 => Q v5 M4)) ∧ (x1 = 4 → WPi T mX6_houseMark [.ref x0, .int x2] M2 (fun v5 M4 => Q v5 M4)) ∧ (¬ x1 = 0 ∧ ¬ x1 = 1 ∧ ¬ x1 = 2 ∧ ¬ x1 = 3 ∧ ¬ x1 = 4 → WPi T mX6_railcartMark [.ref x0, .int x2] M2 (fun v5 M4 => Q v5 M4))) ∧ (v3 = 0 → Q (-1000000) M2)))))) :
    WP T mX6_mark 0 [(0, .ref x0), (1, .int x1), (2, .int x2)] [] M (qi Q) := by
  refine WP.iload_n 1 (dg tX6_mark 0 rfl) rfl rfl ?_
  refine WP.if_lt (tgt := 20) (dg tX6_mark 1 rfl) (by decide) (fun z => ?_) (fun z => ?_)
  · replace h := h.1 z
    refine WP.ldc (v := (-1000000)) kX6_151 (dg tX6_mark 10 rfl) ?_
    exact WP.iret rfl (dg tX6_mark 11 rfl) ⟨_, rfl, h⟩
  · replace h := h.2 z
    refine WP.iload_n 1 (dg tX6_mark 2 rfl) rfl rfl ?_
    refine WP.iconst (v := 5) (dg tX6_mark 3 rfl) (by decide) ?_
    refine WP.icmp_gt (tgt := 20) (dg tX6_mark 4 rfl) (by decide) (fun z => ?_) (fun z => ?_)
    · replace h := h.1 z
      refine WP.ldc (v := (-1000000)) kX6_151 (dg tX6_mark 10 rfl) ?_
      exact WP.iret rfl (dg tX6_mark 11 rfl) ⟨_, rfl, h⟩
    · replace h := h.2 z
      refine WP.aload_n 0 (dg tX6_mark 5 rfl) rfl rfl ?_
      refine WP.getR fX6_53 h0.1 (dg tX6_mark 6 rfl) ?_
      refine WP.topr (fun r1 e_r1 => ?_)
      obtain ⟨o_r1, h⟩ := h r1 e_r1
      refine WP.iload_n 2 (dg tX6_mark 7 rfl) rfl rfl ?_
      refine WP.callVi (As := [.int x2]) (st := []) vX6_102 o_r1.1 rfl rfl ⟨Nat.le_of_ble_eq_true rfl, Nat.le_of_ble_eq_true rfl⟩ (Nat.le_of_ble_eq_true rfl) rfl (dg tX6_mark 8 rfl) h (fun v3 M2 h => ?_)
      refine WP.if_ne (tgt := 23) (dg tX6_mark 9 rfl) (by decide) (fun z => ?_) (fun z => ?_)
      · replace h := h.1 z
        refine WP.iload_n 1 (dg tX6_mark 12 rfl) rfl rfl ?_
        rcases tabcase x1 0 5 with hq | ⟨k, hk, hq⟩
        · replace h := h.2.2.2.2.2 ⟨fun e => by rw [e] at hq; revert hq; decide, fun e => by rw [e] at hq; revert hq; decide, fun e => by rw [e] at hq; revert hq; decide, fun e => by rw [e] at hq; revert hq; decide, fun e => by rw [e] at hq; revert hq; decide⟩
          refine WP.tabOut (tgt := 90) (dg tX6_mark 13 rfl) (by rcases hq with hq | hq <;> omega) (by decide) ?_
          refine WP.aload_n 0 (dg tX6_mark 34 rfl) rfl rfl ?_
          refine WP.iload_n 2 (dg tX6_mark 35 rfl) rfl rfl ?_
          refine WP.callVi (As := [.int x2]) (st := []) vX6_275 h0.1 rfl rfl ⟨Nat.le_of_ble_eq_true rfl, Nat.le_of_ble_eq_true rfl⟩ (Nat.le_of_ble_eq_true rfl) rfl (dg tX6_mark 36 rfl) h (fun v5 M4 h => ?_)
          exact WP.iret rfl (dg tX6_mark 37 rfl) ⟨_, rfl, h⟩
        · rcases (show k = 0 ∨ k = 1 ∨ k = 2 ∨ k = 3 ∨ k = 4 by omega) with rfl | rfl | rfl | rfl | rfl
          · have he : x1 = 0 := Int32.toInt_inj.mp (by rw [hq]; rfl)
            replace h := h.1 (he)
            refine WP.tabIn (off := 36) (tgt := 60) (dg tX6_mark 13 rfl) (by omega) (by omega) (by rw [hq]; rfl) (by decide) ?_
            refine WP.aload_n 0 (dg tX6_mark 14 rfl) rfl rfl ?_
            refine WP.iload_n 2 (dg tX6_mark 15 rfl) rfl rfl ?_
            refine WP.callVi (As := [.int x2]) (st := []) vX6_260 h0.1 rfl rfl ⟨Nat.le_of_ble_eq_true rfl, Nat.le_of_ble_eq_true rfl⟩ (Nat.le_of_ble_eq_true rfl) rfl (dg tX6_mark 16 rfl) h (fun v5 M4 h => ?_)
            exact WP.iret rfl (dg tX6_mark 17 rfl) ⟨_, rfl, h⟩
          · have he : x1 = 1 := Int32.toInt_inj.mp (by rw [hq]; rfl)
            replace h := h.2.1 (he)
            refine WP.tabIn (off := 42) (tgt := 66) (dg tX6_mark 13 rfl) (by omega) (by omega) (by rw [hq]; rfl) (by decide) ?_
            refine WP.aload_n 0 (dg tX6_mark 18 rfl) rfl rfl ?_
            refine WP.iload_n 2 (dg tX6_mark 19 rfl) rfl rfl ?_
            refine WP.callVi (As := [.int x2]) (st := []) vX6_263 h0.1 rfl rfl ⟨Nat.le_of_ble_eq_true rfl, Nat.le_of_ble_eq_true rfl⟩ (Nat.le_of_ble_eq_true rfl) rfl (dg tX6_mark 20 rfl) h (fun v5 M4 h => ?_)
            exact WP.iret rfl (dg tX6_mark 21 rfl) ⟨_, rfl, h⟩
          · have he : x1 = 2 := Int32.toInt_inj.mp (by rw [hq]; rfl)
            replace h := h.2.2.1 (he)
            refine WP.tabIn (off := 48) (tgt := 72) (dg tX6_mark 13 rfl) (by omega) (by omega) (by rw [hq]; rfl) (by decide) ?_
            refine WP.aload_n 0 (dg tX6_mark 22 rfl) rfl rfl ?_
            refine WP.iload_n 2 (dg tX6_mark 23 rfl) rfl rfl ?_
            refine WP.callVi (As := [.int x2]) (st := []) vX6_266 h0.1 rfl rfl ⟨Nat.le_of_ble_eq_true rfl, Nat.le_of_ble_eq_true rfl⟩ (Nat.le_of_ble_eq_true rfl) rfl (dg tX6_mark 24 rfl) h (fun v5 M4 h => ?_)
            exact WP.iret rfl (dg tX6_mark 25 rfl) ⟨_, rfl, h⟩
          · have he : x1 = 3 := Int32.toInt_inj.mp (by rw [hq]; rfl)
            replace h := h.2.2.2.1 (he)
            refine WP.tabIn (off := 54) (tgt := 78) (dg tX6_mark 13 rfl) (by omega) (by omega) (by rw [hq]; rfl) (by decide) ?_
            refine WP.aload_n 0 (dg tX6_mark 26 rfl) rfl rfl ?_
            refine WP.iload_n 2 (dg tX6_mark 27 rfl) rfl rfl ?_
            refine WP.callVi (As := [.int x2]) (st := []) vX6_269 h0.1 rfl rfl ⟨Nat.le_of_ble_eq_true rfl, Nat.le_of_ble_eq_true rfl⟩ (Nat.le_of_ble_eq_true rfl) rfl (dg tX6_mark 28 rfl) h (fun v5 M4 h => ?_)
            exact WP.iret rfl (dg tX6_mark 29 rfl) ⟨_, rfl, h⟩
          · have he : x1 = 4 := Int32.toInt_inj.mp (by rw [hq]; rfl)
            replace h := h.2.2.2.2.1 (he)
            refine WP.tabIn (off := 60) (tgt := 84) (dg tX6_mark 13 rfl) (by omega) (by omega) (by rw [hq]; rfl) (by decide) ?_
            refine WP.aload_n 0 (dg tX6_mark 30 rfl) rfl rfl ?_
            refine WP.iload_n 2 (dg tX6_mark 31 rfl) rfl rfl ?_
            refine WP.callVi (As := [.int x2]) (st := []) vX6_272 h0.1 rfl rfl ⟨Nat.le_of_ble_eq_true rfl, Nat.le_of_ble_eq_true rfl⟩ (Nat.le_of_ble_eq_true rfl) rfl (dg tX6_mark 32 rfl) h (fun v5 M4 h => ?_)
            exact WP.iret rfl (dg tX6_mark 33 rfl) ⟨_, rfl, h⟩
      · replace h := h.2 z
        refine WP.ldc (v := (-1000000)) kX6_151 (dg tX6_mark 10 rfl) ?_
        exact WP.iret rfl (dg tX6_mark 11 rfl) ⟨_, rfl, h⟩
theorem sg_X6_keep_0 {T : Th} {M : Mm} {Q : Int32 → Mm → Prop} {x0 : Nat} {x1 : Int32} (h0 : isX6 T x0)
    (h : (x1 < 0 → Q (-1) M) ∧ (¬ x1 < 0 → (x1 ≤ 1 → (¬ x1 = 0 → WPv T mX5_copyFrom [.ref (x0 + 152), .ref (x0 + 16)] M (fun M1 => ∀ M2 : Mm, M2 = sI M1 (x0 + 152) 3 1 → Q (M2.1 ((x0 + 16) + 1) 0) M2)) ∧ (x1 = 0 → WPv T mX5_copyFrom [.ref (x0 + 84), .ref (x0 + 16)] M (fun M1 => ∀ M2 : Mm, M2 = sI M1 (x0 + 84) 3 1 → Q (M2.1 ((x0 + 16) + 1) 0) M2))) ∧ (¬ x1 ≤ 1 → Q (-1) M))) :
    WP T mX6_keep 0 [(0, .ref x0), (1, .int x1)] [] M (qi Q) := by
  refine WP.iload_n 1 (dg tX6_keep 0 rfl) rfl rfl ?_
  refine WP.if_lt (tgt := 9) (dg tX6_keep 1 rfl) (by decide) (fun z => ?_) (fun z => ?_)
  · replace h := h.1 z
    refine WP.iconst (v := (-1)) (dg tX6_keep 5 rfl) (by decide) ?_
    exact WP.iret rfl (dg tX6_keep 6 rfl) ⟨_, rfl, h⟩
  · replace h := h.2 z
    refine WP.iload_n 1 (dg tX6_keep 2 rfl) rfl rfl ?_
    refine WP.iconst (v := 1) (dg tX6_keep 3 rfl) (by decide) ?_
    refine WP.icmp_le (tgt := 11) (dg tX6_keep 4 rfl) (by decide) (fun z => ?_) (fun z => ?_)
    · replace h := h.1 z
      refine WP.iload_n 1 (dg tX6_keep 7 rfl) rfl rfl ?_
      refine WP.if_ne (tgt := 22) (dg tX6_keep 8 rfl) (by decide) (fun z => ?_) (fun z => ?_)
      · replace h := h.1 z
        refine WP.aload_n 0 (dg tX6_keep 12 rfl) rfl rfl ?_
        refine WP.getF fX6_47 h0.1 (dg tX6_keep 13 rfl) ?_
        refine WP.astore_n (L2 := [(2, .ref (x0 + 152)), (0, .ref x0), (1, .int x1)]) (dg tX6_keep 14 rfl) rfl (by decide) rfl ?_
        refine WP.aload_n 0 (dg tX6_keep 15 rfl) rfl rfl ?_
        refine WP.aload_n 1 (dg tX6_keep 16 rfl) rfl rfl ?_
        refine WP.getF fX6_40 h0.1 (dg tX6_keep 17 rfl) ?_
        refine WP.callVv (As := [.ref (x0 + 16)]) (st := []) vX6_278 h0.2.2.2.2.2.2.2.1 rfl rfl ⟨Nat.le_of_ble_eq_true rfl, Nat.le_of_ble_eq_true rfl⟩ (Nat.le_of_ble_eq_true rfl) rfl (dg tX6_keep 18 rfl) h (fun M1 h => ?_)
        refine WP.aload_n 0 (dg tX6_keep 19 rfl) rfl rfl ?_
        refine WP.iconst (v := 1) (dg tX6_keep 20 rfl) (by decide) ?_
        refine WP.putZ fX6_85 h0.2.2.2.2.2.2.2.1 (by decide) (dg tX6_keep 21 rfl) (fun M2 e_M2 => ?_)
        have h := h M2 e_M2
        refine WP.aload_n 1 (dg tX6_keep 22 rfl) rfl rfl ?_
        refine WP.getF fX6_40 h0.1 (dg tX6_keep 23 rfl) ?_
        refine WP.getF fX6_105 h0.2.2.2.2.2.1.1 (dg tX6_keep 24 rfl) ?_
        refine WP.getI fX6_132 h0.2.2.2.2.2.1.2.1.1 (dg tX6_keep 25 rfl) ?_
        exact WP.iret rfl (dg tX6_keep 26 rfl) ⟨_, rfl, h⟩
      · replace h := h.2 z
        refine WP.aload_n 0 (dg tX6_keep 9 rfl) rfl rfl ?_
        refine WP.getF fX6_44 h0.1 (dg tX6_keep 10 rfl) ?_
        refine WP.goto (tgt := 26) (dg tX6_keep 11 rfl) (by decide) ?_
        refine WP.astore_n (L2 := [(2, .ref (x0 + 84)), (0, .ref x0), (1, .int x1)]) (dg tX6_keep 14 rfl) rfl (by decide) rfl ?_
        refine WP.aload_n 0 (dg tX6_keep 15 rfl) rfl rfl ?_
        refine WP.aload_n 1 (dg tX6_keep 16 rfl) rfl rfl ?_
        refine WP.getF fX6_40 h0.1 (dg tX6_keep 17 rfl) ?_
        refine WP.callVv (As := [.ref (x0 + 16)]) (st := []) vX6_278 h0.2.2.2.2.2.2.1.1 rfl rfl ⟨Nat.le_of_ble_eq_true rfl, Nat.le_of_ble_eq_true rfl⟩ (Nat.le_of_ble_eq_true rfl) rfl (dg tX6_keep 18 rfl) h (fun M1 h => ?_)
        refine WP.aload_n 0 (dg tX6_keep 19 rfl) rfl rfl ?_
        refine WP.iconst (v := 1) (dg tX6_keep 20 rfl) (by decide) ?_
        refine WP.putZ fX6_85 h0.2.2.2.2.2.2.1.1 (by decide) (dg tX6_keep 21 rfl) (fun M2 e_M2 => ?_)
        have h := h M2 e_M2
        refine WP.aload_n 1 (dg tX6_keep 22 rfl) rfl rfl ?_
        refine WP.getF fX6_40 h0.1 (dg tX6_keep 23 rfl) ?_
        refine WP.getF fX6_105 h0.2.2.2.2.2.1.1 (dg tX6_keep 24 rfl) ?_
        refine WP.getI fX6_132 h0.2.2.2.2.2.1.2.1.1 (dg tX6_keep 25 rfl) ?_
        exact WP.iret rfl (dg tX6_keep 26 rfl) ⟨_, rfl, h⟩
    · replace h := h.2 z
      refine WP.iconst (v := (-1)) (dg tX6_keep 5 rfl) (by decide) ?_
      exact WP.iret rfl (dg tX6_keep 6 rfl) ⟨_, rfl, h⟩
theorem sg_X6_back_0 {T : Th} {M : Mm} {Q : Int32 → Mm → Prop} {x0 : Nat} {x1 : Int32} (h0 : isX6 T x0)
    (h : (x1 < 0 → Q (-1) M) ∧ (¬ x1 < 0 → (x1 ≤ 1 → (¬ x1 = 0 → WP T mX6_back 26 [(0, .ref x0)] [.ref (x0 + 152)] M (qi Q)) ∧ (x1 = 0 → WP T mX6_back 26 [(0, .ref x0)] [.ref (x0 + 84)] M (qi Q))) ∧ (¬ x1 ≤ 1 → Q (-1) M))) :
    WP T mX6_back 0 [(0, .ref x0), (1, .int x1)] [] M (qi Q) := by
  refine WP.iload_n 1 (dg tX6_back 0 rfl) rfl rfl ?_
  refine WP.if_lt (tgt := 9) (dg tX6_back 1 rfl) (by decide) (fun z => ?_) (fun z => ?_)
  · replace h := h.1 z
    refine WP.iconst (v := (-1)) (dg tX6_back 5 rfl) (by decide) ?_
    exact WP.iret rfl (dg tX6_back 6 rfl) ⟨_, rfl, h⟩
  · replace h := h.2 z
    refine WP.iload_n 1 (dg tX6_back 2 rfl) rfl rfl ?_
    refine WP.iconst (v := 1) (dg tX6_back 3 rfl) (by decide) ?_
    refine WP.icmp_le (tgt := 11) (dg tX6_back 4 rfl) (by decide) (fun z => ?_) (fun z => ?_)
    · replace h := h.1 z
      refine WP.iload_n 1 (dg tX6_back 7 rfl) rfl rfl ?_
      refine WP.if_ne (tgt := 22) (dg tX6_back 8 rfl) (by decide) (fun z => ?_) (fun z => ?_)
      · replace h := h.1 z
        refine WP.aload_n 0 (dg tX6_back 12 rfl) rfl rfl ?_
        refine WP.getF fX6_47 h0.1 (dg tX6_back 13 rfl) ?_
        refine WP.sub [0] rfl ?_
        exact h
      · replace h := h.2 z
        refine WP.aload_n 0 (dg tX6_back 9 rfl) rfl rfl ?_
        refine WP.getF fX6_44 h0.1 (dg tX6_back 10 rfl) ?_
        refine WP.goto (tgt := 26) (dg tX6_back 11 rfl) (by decide) ?_
        refine WP.sub [0] rfl ?_
        exact h
    · replace h := h.2 z
      refine WP.iconst (v := (-1)) (dg tX6_back 5 rfl) (by decide) ?_
      exact WP.iret rfl (dg tX6_back 6 rfl) ⟨_, rfl, h⟩
theorem sg_X6_back_26 {T : Th} {M : Mm} {Q : Int32 → Mm → Prop} {x0 : Nat} {s0 : Nat} (h0 : isX6 T x0) (hs0 : isX5 T s0)
    (h : (¬ (M.1 s0 3) = 0 → WPv T mX5_copyFrom [.ref (x0 + 16), .ref s0] M (fun M1 => Q (M1.1 ((x0 + 16) + 1) 0) M1)) ∧ ((M.1 s0 3) = 0 → Q (-2) M)) :
    WP T mX6_back 26 [(0, .ref x0)] [.ref s0] M (qi Q) := by
  refine WP.astore_n (L2 := [(2, .ref s0), (0, .ref x0)]) (dg tX6_back 14 rfl) rfl (by decide) rfl ?_
  refine WP.aload_n 0 (dg tX6_back 15 rfl) rfl rfl ?_
  refine WP.getI fX6_85 hs0.1 (dg tX6_back 16 rfl) ?_
  refine WP.if_ne (tgt := 37) (dg tX6_back 17 rfl) (by decide) (fun z => ?_) (fun z => ?_)
  · replace h := h.1 z
    refine WP.aload_n 1 (dg tX6_back 20 rfl) rfl rfl ?_
    refine WP.getF fX6_40 h0.1 (dg tX6_back 21 rfl) ?_
    refine WP.aload_n 0 (dg tX6_back 22 rfl) rfl rfl ?_
    refine WP.callVv (As := [.ref s0]) (st := []) vX6_278 h0.2.2.2.2.2.1.1 rfl rfl ⟨Nat.le_of_ble_eq_true rfl, Nat.le_of_ble_eq_true rfl⟩ (Nat.le_of_ble_eq_true rfl) rfl (dg tX6_back 23 rfl) h (fun M1 h => ?_)
    refine WP.aload_n 1 (dg tX6_back 24 rfl) rfl rfl ?_
    refine WP.getF fX6_40 h0.1 (dg tX6_back 25 rfl) ?_
    refine WP.getF fX6_105 h0.2.2.2.2.2.1.1 (dg tX6_back 26 rfl) ?_
    refine WP.getI fX6_132 h0.2.2.2.2.2.1.2.1.1 (dg tX6_back 27 rfl) ?_
    exact WP.iret rfl (dg tX6_back 28 rfl) ⟨_, rfl, h⟩
  · replace h := h.2 z
    refine WP.bipush (v := (-2)) (dg tX6_back 18 rfl) (by decide) ?_
    exact WP.iret rfl (dg tX6_back 19 rfl) ⟨_, rfl, h⟩
theorem sg_X6_count_0 {T : Th} {M : Mm} {Q : Int32 → Mm → Prop} {x0 : Nat} {x1 : Int32} (h0 : isX6 T x0)
    (h : (x1 = 0 → ∀ r1 : Nat, r1 = M.2.2 x0 7 → isX1 T r1 ∧ (Q (M.1 r1 6) M)) ∧ (x1 = 1 → ∀ r1 : Nat, r1 = M.2.2 x0 7 → isX1 T r1 ∧ (Q (M.1 r1 7) M)) ∧ (x1 = 2 → ∀ r1 : Nat, r1 = M.2.2 x0 7 → isX1 T r1 ∧ (WPi T mJ6_bitCount_0f7a4 [.int (M.1 r1 5)] M (fun v3 M2 => Q v3 M2))) ∧ (x1 = 3 → Q (M.1 (x0 + 16) 2) M) ∧ (x1 = 4 → Q (M.1 (x0 + 1) 1) M) ∧ (¬ x1 = 0 ∧ ¬ x1 = 1 ∧ ¬ x1 = 2 ∧ ¬ x1 = 3 ∧ ¬ x1 = 4 → Q (-1) M)) :
    WP T mX6_count 0 [(0, .ref x0), (1, .int x1)] [] M (qi Q) := by
  refine WP.iload_n 1 (dg tX6_count 0 rfl) rfl rfl ?_
  rcases tabcase x1 0 5 with hq | ⟨k, hk, hq⟩
  · replace h := h.2.2.2.2.2 ⟨fun e => by rw [e] at hq; revert hq; decide, fun e => by rw [e] at hq; revert hq; decide, fun e => by rw [e] at hq; revert hq; decide, fun e => by rw [e] at hq; revert hq; decide, fun e => by rw [e] at hq; revert hq; decide⟩
    refine WP.tabOut (tgt := 79) (dg tX6_count 1 rfl) (by rcases hq with hq | hq <;> omega) (by decide) ?_
    refine WP.iconst (v := (-1)) (dg tX6_count 23 rfl) (by decide) ?_
    exact WP.iret rfl (dg tX6_count 24 rfl) ⟨_, rfl, h⟩
  · rcases (show k = 0 ∨ k = 1 ∨ k = 2 ∨ k = 3 ∨ k = 4 by omega) with rfl | rfl | rfl | rfl | rfl
    · have he : x1 = 0 := Int32.toInt_inj.mp (by rw [hq]; rfl)
      replace h := h.1 (he)
      refine WP.tabIn (off := 35) (tgt := 36) (dg tX6_count 1 rfl) (by omega) (by omega) (by rw [hq]; rfl) (by decide) ?_
      refine WP.aload_n 0 (dg tX6_count 2 rfl) rfl rfl ?_
      refine WP.getR fX6_53 h0.1 (dg tX6_count 3 rfl) ?_
      refine WP.topr (fun r1 e_r1 => ?_)
      obtain ⟨o_r1, h⟩ := h r1 e_r1
      refine WP.getI fX6_281 o_r1.1 (dg tX6_count 4 rfl) ?_
      exact WP.iret rfl (dg tX6_count 5 rfl) ⟨_, rfl, h⟩
    · have he : x1 = 1 := Int32.toInt_inj.mp (by rw [hq]; rfl)
      replace h := h.2.1 (he)
      refine WP.tabIn (off := 43) (tgt := 44) (dg tX6_count 1 rfl) (by omega) (by omega) (by rw [hq]; rfl) (by decide) ?_
      refine WP.aload_n 0 (dg tX6_count 6 rfl) rfl rfl ?_
      refine WP.getR fX6_53 h0.1 (dg tX6_count 7 rfl) ?_
      refine WP.topr (fun r1 e_r1 => ?_)
      obtain ⟨o_r1, h⟩ := h r1 e_r1
      refine WP.getI fX6_284 o_r1.1 (dg tX6_count 8 rfl) ?_
      exact WP.iret rfl (dg tX6_count 9 rfl) ⟨_, rfl, h⟩
    · have he : x1 = 2 := Int32.toInt_inj.mp (by rw [hq]; rfl)
      replace h := h.2.2.1 (he)
      refine WP.tabIn (off := 51) (tgt := 52) (dg tX6_count 1 rfl) (by omega) (by omega) (by rw [hq]; rfl) (by decide) ?_
      refine WP.aload_n 0 (dg tX6_count 10 rfl) rfl rfl ?_
      refine WP.getR fX6_53 h0.1 (dg tX6_count 11 rfl) ?_
      refine WP.topr (fun r1 e_r1 => ?_)
      obtain ⟨o_r1, h⟩ := h r1 e_r1
      refine WP.getI fX6_96 o_r1.1 (dg tX6_count 12 rfl) ?_
      refine WP.callSi (As := [.int (M.1 r1 5)]) (st := []) vX6_162 rfl ⟨Nat.le_of_ble_eq_true rfl, Nat.le_of_ble_eq_true rfl⟩ (Nat.le_of_ble_eq_true rfl) rfl (dg tX6_count 13 rfl) h (fun v3 M2 h => ?_)
      exact WP.iret rfl (dg tX6_count 14 rfl) ⟨_, rfl, h⟩
    · have he : x1 = 3 := Int32.toInt_inj.mp (by rw [hq]; rfl)
      replace h := h.2.2.2.1 (he)
      refine WP.tabIn (off := 62) (tgt := 63) (dg tX6_count 1 rfl) (by omega) (by omega) (by rw [hq]; rfl) (by decide) ?_
      refine WP.aload_n 0 (dg tX6_count 15 rfl) rfl rfl ?_
      refine WP.getF fX6_40 h0.1 (dg tX6_count 16 rfl) ?_
      refine WP.getI fX6_179 h0.2.2.2.2.2.1.1 (dg tX6_count 17 rfl) ?_
      exact WP.iret rfl (dg tX6_count 18 rfl) ⟨_, rfl, h⟩
    · have he : x1 = 4 := Int32.toInt_inj.mp (by rw [hq]; rfl)
      replace h := h.2.2.2.2.1 (he)
      refine WP.tabIn (off := 70) (tgt := 71) (dg tX6_count 1 rfl) (by omega) (by omega) (by rw [hq]; rfl) (by decide) ?_
      refine WP.aload_n 0 (dg tX6_count 19 rfl) rfl rfl ?_
      refine WP.getF fX6_10 h0.1 (dg tX6_count 20 rfl) ?_
      refine WP.getI fX6_64 h0.2.1.1 (dg tX6_count 21 rfl) ?_
      exact WP.iret rfl (dg tX6_count 22 rfl) ⟨_, rfl, h⟩
theorem sg_X6_trace_0 {T : Th} {M : Mm} {Q : Int64 → Mm → Prop} {x0 : Nat} (h0 : isX6 T x0)
    (h : Q (M.2.1 x0 9) M) :
    WP T mX6_trace 0 [(0, .ref x0)] [] M (ql Q) := by
  refine WP.aload_n 0 (dg tX6_trace 0 rfl) rfl rfl ?_
  refine WP.getL fX6_287 h0.1 (dg tX6_trace 1 rfl) ?_
  exact WP.lret rfl (dg tX6_trace 2 rfl) ⟨_, rfl, h⟩
theorem sg_X6_leastOf_0 {T : Th} {M : Mm} {Q : Int32 → Mm → Prop} {x0 : Int32} 
    (h : WP T mX6_leastOf 2 [(0, .int x0), (1, .int 0)] [] M (qi Q)) :
    WP T mX6_leastOf 0 [(0, .int x0)] [] M (qi Q) := by
  refine WP.iconst (v := 0) (dg tX6_leastOf 0 rfl) (by decide) ?_
  refine WP.istore_n (L2 := [(1, .int 0), (0, .int x0)]) (dg tX6_leastOf 1 rfl) rfl (by decide) rfl ?_
  refine WP.sub [1, 0] rfl ?_
  exact h
theorem sg_X6_leastOf_2 {T : Th} {M : Mm} {Q : Int32 → Mm → Prop} {x0 : Int32} {x1 : Int32} 
    (h : (5 ≤ x1 → Q (-9) M) ∧ (¬ 5 ≤ x1 → (¬ ((x0 >>> (x1 &&& 31)) &&& 1) = 1 → ∀ v1 : Int32, v1 = x1 + 1 → WP T mX6_leastOf 2 [(0, .int x0), (1, .int v1)] [] M (qi Q)) ∧ (((x0 >>> (x1 &&& 31)) &&& 1) = 1 → Q x1 M))) :
    WP T mX6_leastOf 2 [(0, .int x0), (1, .int x1)] [] M (qi Q) := by
  refine WP.iload_n 1 (dg tX6_leastOf 2 rfl) rfl rfl ?_
  refine WP.iconst (v := 5) (dg tX6_leastOf 3 rfl) (by decide) ?_
  refine WP.icmp_ge (tgt := 24) (dg tX6_leastOf 4 rfl) (by decide) (fun z => ?_) (fun z => ?_)
  · replace h := h.1 z
    refine WP.bipush (v := (-9)) (dg tX6_leastOf 16 rfl) (by decide) ?_
    exact WP.iret rfl (dg tX6_leastOf 17 rfl) ⟨_, rfl, h⟩
  · replace h := h.2 z
    refine WP.iload_n 0 (dg tX6_leastOf 5 rfl) rfl rfl ?_
    refine WP.iload_n 1 (dg tX6_leastOf 6 rfl) rfl rfl ?_
    refine WP.ishr (dg tX6_leastOf 7 rfl) ?_
    refine WP.iconst (v := 1) (dg tX6_leastOf 8 rfl) (by decide) ?_
    refine WP.iand (dg tX6_leastOf 9 rfl) ?_
    refine WP.iconst (v := 1) (dg tX6_leastOf 10 rfl) (by decide) ?_
    refine WP.icmp_ne (tgt := 18) (dg tX6_leastOf 11 rfl) (by decide) (fun z => ?_) (fun z => ?_)
    · replace h := h.1 z
      obtain ⟨v1, e_v1⟩ : ∃ y : Int32, y = x1 + 1 := ⟨_, rfl⟩
      have h := h v1 e_v1
      refine WP.iinc (v := v1) (L2 := [(1, .int v1), (0, .int x0)]) 1 (dg tX6_leastOf 14 rfl) rfl (by rw [e_v1]; rfl) (by decide) rfl ?_
      refine WP.goto (tgt := 2) (dg tX6_leastOf 15 rfl) (by decide) ?_
      refine WP.sub [1, 0] rfl ?_
      exact h
    · replace h := h.2 z
      refine WP.iload_n 1 (dg tX6_leastOf 12 rfl) rfl rfl ?_
      exact WP.iret rfl (dg tX6_leastOf 13 rfl) ⟨_, rfl, h⟩
theorem sg_X6_findStarts_0 {T : Th} {M : Mm} {Q : Int32 → Mm → Prop} {x0 : Nat} (h0 : isX6 T x0)
    (h : WPi T mX3_latest [.ref (x0 + 3), .int 0] M (fun v2 M1 => WPi T mX3_latest [.ref (x0 + 3), .int 1] M1 (fun v4 M3 => WPi T mX3_latest [.ref (x0 + 3), .int 2] M3 (fun v6 M5 => WP T mX6_findStarts 30 [(0, .ref x0), (1, .int v2), (2, .int v4), (3, .int v6), (4, .int 0)] [] M5 (qi Q))))) :
    WP T mX6_findStarts 0 [(0, .ref x0)] [] M (qi Q) := by
  refine WP.aload_n 0 (dg tX6_findStarts 0 rfl) rfl rfl ?_
  refine WP.getF fX6_19 h0.1 (dg tX6_findStarts 1 rfl) ?_
  refine WP.iconst (v := 0) (dg tX6_findStarts 2 rfl) (by decide) ?_
  refine WP.callVi (As := [.int 0]) (st := []) vX6_291 h0.2.2.1.1 rfl rfl ⟨Nat.le_of_ble_eq_true rfl, Nat.le_of_ble_eq_true rfl⟩ (Nat.le_of_ble_eq_true rfl) rfl (dg tX6_findStarts 3 rfl) h (fun v2 M1 h => ?_)
  refine WP.istore_n (L2 := [(1, .int v2), (0, .ref x0)]) (dg tX6_findStarts 4 rfl) rfl (by decide) rfl ?_
  refine WP.aload_n 1 (dg tX6_findStarts 5 rfl) rfl rfl ?_
  refine WP.getF fX6_19 h0.1 (dg tX6_findStarts 6 rfl) ?_
  refine WP.iconst (v := 1) (dg tX6_findStarts 7 rfl) (by decide) ?_
  refine WP.callVi (As := [.int 1]) (st := []) vX6_291 h0.2.2.1.1 rfl rfl ⟨Nat.le_of_ble_eq_true rfl, Nat.le_of_ble_eq_true rfl⟩ (Nat.le_of_ble_eq_true rfl) rfl (dg tX6_findStarts 8 rfl) h (fun v4 M3 h => ?_)
  refine WP.istore_n (L2 := [(2, .int v4), (1, .int v2), (0, .ref x0)]) (dg tX6_findStarts 9 rfl) rfl (by decide) rfl ?_
  refine WP.aload_n 2 (dg tX6_findStarts 10 rfl) rfl rfl ?_
  refine WP.getF fX6_19 h0.1 (dg tX6_findStarts 11 rfl) ?_
  refine WP.iconst (v := 2) (dg tX6_findStarts 12 rfl) (by decide) ?_
  refine WP.callVi (As := [.int 2]) (st := []) vX6_291 h0.2.2.1.1 rfl rfl ⟨Nat.le_of_ble_eq_true rfl, Nat.le_of_ble_eq_true rfl⟩ (Nat.le_of_ble_eq_true rfl) rfl (dg tX6_findStarts 13 rfl) h (fun v6 M5 h => ?_)
  refine WP.istore_n (L2 := [(3, .int v6), (2, .int v4), (1, .int v2), (0, .ref x0)]) (dg tX6_findStarts 14 rfl) rfl (by decide) rfl ?_
  refine WP.iconst (v := 0) (dg tX6_findStarts 15 rfl) (by decide) ?_
  refine WP.istore (L2 := [(4, .int 0), (3, .int v6), (2, .int v4), (1, .int v2), (0, .ref x0)]) (dg tX6_findStarts 16 rfl) (by decide) rfl ?_
  refine WP.sub [4, 3, 2, 1, 0] rfl ?_
  exact h
theorem sg_X6_findStarts_30 {T : Th} {M : Mm} {Q : Int32 → Mm → Prop} {x0 : Nat} {x1 : Int32} {x2 : Int32} {x3 : Int32} {x4 : Int32} (h0 : isX6 T x0)
    (h : (((x1 + x2) + x3) < x4 → Q 0 M) ∧ (¬ ((x1 + x2) + x3) < x4 → WP T mX6_findStarts 43 [(0, .ref x0), (1, .int x1), (2, .int x2), (3, .int x3), (4, .int x4), (5, .int 0)] [] M (qi Q))) :
    WP T mX6_findStarts 30 [(0, .ref x0), (1, .int x1), (2, .int x2), (3, .int x3), (4, .int x4)] [] M (qi Q) := by
  refine WP.iload 4 (dg tX6_findStarts 17 rfl) rfl ?_
  refine WP.iload_n 1 (dg tX6_findStarts 18 rfl) rfl rfl ?_
  refine WP.iload_n 2 (dg tX6_findStarts 19 rfl) rfl rfl ?_
  refine WP.iadd (dg tX6_findStarts 20 rfl) ?_
  refine WP.iload_n 3 (dg tX6_findStarts 21 rfl) rfl rfl ?_
  refine WP.iadd (dg tX6_findStarts 22 rfl) ?_
  refine WP.icmp_gt (tgt := 145) (dg tX6_findStarts 23 rfl) (by decide) (fun z => ?_) (fun z => ?_)
  · replace h := h.1 z
    refine WP.iconst (v := 0) (dg tX6_findStarts 75 rfl) (by decide) ?_
    exact WP.zret rfl (by decide) (dg tX6_findStarts 76 rfl) ⟨_, rfl, h⟩
  · replace h := h.2 z
    refine WP.iconst (v := 0) (dg tX6_findStarts 24 rfl) (by decide) ?_
    refine WP.istore (L2 := [(5, .int 0), (0, .ref x0), (1, .int x1), (2, .int x2), (3, .int x3), (4, .int x4)]) (dg tX6_findStarts 25 rfl) (by decide) rfl ?_
    refine WP.sub [1, 2, 3, 4, 5, 0] rfl ?_
    exact h
theorem sg_X6_findStarts_43 {T : Th} {M : Mm} {Q : Int32 → Mm → Prop} {x0 : Nat} {x1 : Int32} {x2 : Int32} {x3 : Int32} {x4 : Int32} {x5 : Int32} (h0 : isX6 T x0)
    (h : (x1 < x5 → ∀ v1 : Int32, v1 = x4 + 1 → WP T mX6_findStarts 30 [(0, .ref x0), (1, .int x1), (2, .int x2), (3, .int x3), (4, .int v1)] [] M (qi Q)) ∧ (¬ x1 < x5 → (x4 < x5 → ∀ v1 : Int32, v1 = x4 + 1 → WP T mX6_findStarts 30 [(0, .ref x0), (1, .int x1), (2, .int x2), (3, .int x3), (4, .int v1)] [] M (qi Q)) ∧ (¬ x4 < x5 → ∀ v1 : Int32, v1 = (if 0 < ((x4 - x5) - x3) then ((x4 - x5) - x3) else 0) → WP T mX6_findStarts 69 [(0, .ref x0), (1, .int x1), (2, .int x2), (3, .int x3), (4, .int x4), (5, .int x5), (6, .int v1)] [] M (qi Q)))) :
    WP T mX6_findStarts 43 [(0, .ref x0), (1, .int x1), (2, .int x2), (3, .int x3), (4, .int x4), (5, .int x5)] [] M (qi Q) := by
  refine WP.iload 5 (dg tX6_findStarts 26 rfl) rfl ?_
  refine WP.iload_n 1 (dg tX6_findStarts 27 rfl) rfl rfl ?_
  refine WP.icmp_gt (tgt := 139) (dg tX6_findStarts 28 rfl) (by decide) (fun z => ?_) (fun z => ?_)
  · replace h := h.1 z
    obtain ⟨v1, e_v1⟩ : ∃ y : Int32, y = x4 + 1 := ⟨_, rfl⟩
    have h := h v1 e_v1
    refine WP.iinc (v := v1) (L2 := [(4, .int v1), (0, .ref x0), (1, .int x1), (2, .int x2), (3, .int x3), (5, .int x5)]) 4 (dg tX6_findStarts 73 rfl) rfl (by rw [e_v1]; rfl) (by decide) rfl ?_
    refine WP.goto (tgt := 30) (dg tX6_findStarts 74 rfl) (by decide) ?_
    refine WP.sub [1, 2, 3, 4, 0] rfl ?_
    exact h
  · replace h := h.2 z
    refine WP.iload 5 (dg tX6_findStarts 29 rfl) rfl ?_
    refine WP.iload 4 (dg tX6_findStarts 30 rfl) rfl ?_
    refine WP.icmp_gt (tgt := 139) (dg tX6_findStarts 31 rfl) (by decide) (fun z => ?_) (fun z => ?_)
    · replace h := h.1 z
      obtain ⟨v1, e_v1⟩ : ∃ y : Int32, y = x4 + 1 := ⟨_, rfl⟩
      have h := h v1 e_v1
      refine WP.iinc (v := v1) (L2 := [(4, .int v1), (0, .ref x0), (1, .int x1), (2, .int x2), (3, .int x3), (5, .int x5)]) 4 (dg tX6_findStarts 73 rfl) rfl (by rw [e_v1]; rfl) (by decide) rfl ?_
      refine WP.goto (tgt := 30) (dg tX6_findStarts 74 rfl) (by decide) ?_
      refine WP.sub [1, 2, 3, 4, 0] rfl ?_
      exact h
    · replace h := h.2 z
      refine WP.iconst (v := 0) (dg tX6_findStarts 32 rfl) (by decide) ?_
      refine WP.iload 4 (dg tX6_findStarts 33 rfl) rfl ?_
      refine WP.iload 5 (dg tX6_findStarts 34 rfl) rfl ?_
      refine WP.isub (dg tX6_findStarts 35 rfl) ?_
      refine WP.iload_n 3 (dg tX6_findStarts 36 rfl) rfl rfl ?_
      refine WP.isub (dg tX6_findStarts 37 rfl) ?_
      refine WP.mmax vX6_226 (by decide) (Nat.le_of_ble_eq_true rfl) (dg tX6_findStarts 38 rfl) ?_
      refine WP.topi (fun v1 e_v1 => ?_)
      have h := h v1 e_v1
      refine WP.istore (L2 := [(6, .int v1), (0, .ref x0), (1, .int x1), (2, .int x2), (3, .int x3), (4, .int x4), (5, .int x5)]) (dg tX6_findStarts 39 rfl) (by decide) rfl ?_
      refine WP.sub [1, 2, 3, 4, 5, 6, 0] rfl ?_
      exact h
theorem sg_X6_findStarts_69 {T : Th} {M : Mm} {Q : Int32 → Mm → Prop} {x0 : Nat} {x1 : Int32} {x2 : Int32} {x3 : Int32} {x4 : Int32} {x5 : Int32} {x6 : Int32} (h0 : isX6 T x0)
    (h : (x2 < x6 → ∀ v1 : Int32, v1 = x5 + 1 → WP T mX6_findStarts 43 [(0, .ref x0), (1, .int x1), (2, .int x2), (3, .int x3), (4, .int x4), (5, .int v1)] [] M (qi Q)) ∧ (¬ x2 < x6 → (x4 < (x5 + x6) → ∀ v1 : Int32, v1 = x5 + 1 → WP T mX6_findStarts 43 [(0, .ref x0), (1, .int x1), (2, .int x2), (3, .int x3), (4, .int x4), (5, .int v1)] [] M (qi Q)) ∧ (¬ x4 < (x5 + x6) → WPv T mX3_setStarts [.ref (x0 + 3), .int x5, .int x6, .int ((x4 - x5) - x6)] M (fun M1 => WPv T mX2_copyFrom [.ref (x0 + 10), .ref ((x0 + 16) + 1)] M1 (fun M2 => WPi T mX6_isTrialSafe [.ref x0] M2 (fun v4 M3 => (v4 = 0 → ∀ v5 : Int32, v5 = x6 + 1 → WP T mX6_findStarts 69 [(0, .ref x0), (1, .int x1), (2, .int x2), (3, .int x3), (4, .int x4), (5, .int x5), (6, .int v5)] [] M3 (qi Q)) ∧ (¬ v4 = 0 → Q 1 M3))))))) :
    WP T mX6_findStarts 69 [(0, .ref x0), (1, .int x1), (2, .int x2), (3, .int x3), (4, .int x4), (5, .int x5), (6, .int x6)] [] M (qi Q) := by
  refine WP.iload 6 (dg tX6_findStarts 40 rfl) rfl ?_
  refine WP.iload_n 2 (dg tX6_findStarts 41 rfl) rfl rfl ?_
  refine WP.icmp_gt (tgt := 133) (dg tX6_findStarts 42 rfl) (by decide) (fun z => ?_) (fun z => ?_)
  · replace h := h.1 z
    obtain ⟨v1, e_v1⟩ : ∃ y : Int32, y = x5 + 1 := ⟨_, rfl⟩
    have h := h v1 e_v1
    refine WP.iinc (v := v1) (L2 := [(5, .int v1), (0, .ref x0), (1, .int x1), (2, .int x2), (3, .int x3), (4, .int x4), (6, .int x6)]) 5 (dg tX6_findStarts 71 rfl) rfl (by rw [e_v1]; rfl) (by decide) rfl ?_
    refine WP.goto (tgt := 43) (dg tX6_findStarts 72 rfl) (by decide) ?_
    refine WP.sub [1, 2, 3, 4, 5, 0] rfl ?_
    exact h
  · replace h := h.2 z
    refine WP.iload 5 (dg tX6_findStarts 43 rfl) rfl ?_
    refine WP.iload 6 (dg tX6_findStarts 44 rfl) rfl ?_
    refine WP.iadd (dg tX6_findStarts 45 rfl) ?_
    refine WP.iload 4 (dg tX6_findStarts 46 rfl) rfl ?_
    refine WP.icmp_gt (tgt := 133) (dg tX6_findStarts 47 rfl) (by decide) (fun z => ?_) (fun z => ?_)
    · replace h := h.1 z
      obtain ⟨v1, e_v1⟩ : ∃ y : Int32, y = x5 + 1 := ⟨_, rfl⟩
      have h := h v1 e_v1
      refine WP.iinc (v := v1) (L2 := [(5, .int v1), (0, .ref x0), (1, .int x1), (2, .int x2), (3, .int x3), (4, .int x4), (6, .int x6)]) 5 (dg tX6_findStarts 71 rfl) rfl (by rw [e_v1]; rfl) (by decide) rfl ?_
      refine WP.goto (tgt := 43) (dg tX6_findStarts 72 rfl) (by decide) ?_
      refine WP.sub [1, 2, 3, 4, 5, 0] rfl ?_
      exact h
    · replace h := h.2 z
      refine WP.aload_n 0 (dg tX6_findStarts 48 rfl) rfl rfl ?_
      refine WP.getF fX6_19 h0.1 (dg tX6_findStarts 49 rfl) ?_
      refine WP.iload 5 (dg tX6_findStarts 50 rfl) rfl ?_
      refine WP.iload 6 (dg tX6_findStarts 51 rfl) rfl ?_
      refine WP.iload 4 (dg tX6_findStarts 52 rfl) rfl ?_
      refine WP.iload 5 (dg tX6_findStarts 53 rfl) rfl ?_
      refine WP.isub (dg tX6_findStarts 54 rfl) ?_
      refine WP.iload 6 (dg tX6_findStarts 55 rfl) rfl ?_
      refine WP.isub (dg tX6_findStarts 56 rfl) ?_
      refine WP.callVv (As := [.int x5, .int x6, .int ((x4 - x5) - x6)]) (st := []) vX6_294 h0.2.2.1.1 rfl rfl ⟨Nat.le_of_ble_eq_true rfl, Nat.le_of_ble_eq_true rfl⟩ (Nat.le_of_ble_eq_true rfl) rfl (dg tX6_findStarts 57 rfl) h (fun M1 h => ?_)
      refine WP.aload_n 0 (dg tX6_findStarts 58 rfl) rfl rfl ?_
      refine WP.getF fX6_33 h0.1 (dg tX6_findStarts 59 rfl) ?_
      refine WP.aload_n 0 (dg tX6_findStarts 60 rfl) rfl rfl ?_
      refine WP.getF fX6_40 h0.1 (dg tX6_findStarts 61 rfl) ?_
      refine WP.getF fX6_105 h0.2.2.2.2.2.1.1 (dg tX6_findStarts 62 rfl) ?_
      refine WP.callVv (As := [.ref ((x0 + 16) + 1)]) (st := []) vX6_182 h0.2.2.2.2.1.1 rfl rfl ⟨Nat.le_of_ble_eq_true rfl, Nat.le_of_ble_eq_true rfl⟩ (Nat.le_of_ble_eq_true rfl) rfl (dg tX6_findStarts 63 rfl) h (fun M2 h => ?_)
      refine WP.aload_n 0 (dg tX6_findStarts 64 rfl) rfl rfl ?_
      refine WP.callVi (As := []) (st := []) vX6_196 h0.1 rfl rfl ⟨Nat.le_of_ble_eq_true rfl, Nat.le_of_ble_eq_true rfl⟩ (Nat.le_of_ble_eq_true rfl) rfl (dg tX6_findStarts 65 rfl) h (fun v4 M3 h => ?_)
      refine WP.if_eq (tgt := 127) (dg tX6_findStarts 66 rfl) (by decide) (fun z => ?_) (fun z => ?_)
      · replace h := h.1 z
        obtain ⟨v5, e_v5⟩ : ∃ y : Int32, y = x6 + 1 := ⟨_, rfl⟩
        have h := h v5 e_v5
        refine WP.iinc (v := v5) (L2 := [(6, .int v5), (0, .ref x0), (1, .int x1), (2, .int x2), (3, .int x3), (4, .int x4), (5, .int x5)]) 6 (dg tX6_findStarts 69 rfl) rfl (by rw [e_v5]; rfl) (by decide) rfl ?_
        refine WP.goto (tgt := 69) (dg tX6_findStarts 70 rfl) (by decide) ?_
        refine WP.sub [1, 2, 3, 4, 5, 6, 0] rfl ?_
        exact h
      · replace h := h.2 z
        refine WP.iconst (v := 1) (dg tX6_findStarts 67 rfl) (by decide) ?_
        exact WP.zret rfl (by decide) (dg tX6_findStarts 68 rfl) ⟨_, rfl, h⟩
theorem sg_X6_isTrialSafe_0 {T : Th} {M : Mm} {Q : Int32 → Mm → Prop} {x0 : Nat} (h0 : isX6 T x0)
    (h : WP T mX6_isTrialSafe 2 [(0, .ref x0), (1, .int 0)] [] M (qi Q)) :
    WP T mX6_isTrialSafe 0 [(0, .ref x0)] [] M (qi Q) := by
  refine WP.iconst (v := 0) (dg tX6_isTrialSafe 0 rfl) (by decide) ?_
  refine WP.istore_n (L2 := [(1, .int 0), (0, .ref x0)]) (dg tX6_isTrialSafe 1 rfl) rfl (by decide) rfl ?_
  refine WP.sub [1, 0] rfl ?_
  exact h
theorem sg_X6_isTrialSafe_2 {T : Th} {M : Mm} {Q : Int32 → Mm → Prop} {x0 : Nat} {x1 : Int32} (h0 : isX6 T x0)
    (h : (40 ≤ x1 → Q 1 M) ∧ (¬ 40 ≤ x1 → WPv T mX3_order [.ref (x0 + 3), .ref (x0 + 10), .int x1] M (fun M1 => ∀ r2 : Nat, r2 = M1.2.2 x0 7 → isX1 T r2 ∧ (WPi T mX1_pass [.ref r2, .ref (x0 + 10)] M1 (fun v4 M3 => ((M3.1 (x0 + 10) 1) = (M3.1 ((x0 + 16) + 1) 1) → ∀ v5 : Int32, v5 = x1 + 1 → WP T mX6_isTrialSafe 2 [(0, .ref x0), (1, .int v5)] [] M3 (qi Q)) ∧ (¬ (M3.1 (x0 + 10) 1) = (M3.1 ((x0 + 16) + 1) 1) → Q 0 M3)))))) :
    WP T mX6_isTrialSafe 2 [(0, .ref x0), (1, .int x1)] [] M (qi Q) := by
  refine WP.iload_n 1 (dg tX6_isTrialSafe 2 rfl) rfl rfl ?_
  refine WP.bipush (v := 40) (dg tX6_isTrialSafe 3 rfl) (by decide) ?_
  refine WP.icmp_ge (tgt := 60) (dg tX6_isTrialSafe 4 rfl) (by decide) (fun z => ?_) (fun z => ?_)
  · replace h := h.1 z
    refine WP.iconst (v := 1) (dg tX6_isTrialSafe 29 rfl) (by decide) ?_
    exact WP.zret rfl (by decide) (dg tX6_isTrialSafe 30 rfl) ⟨_, rfl, h⟩
  · replace h := h.2 z
    refine WP.aload_n 0 (dg tX6_isTrialSafe 5 rfl) rfl rfl ?_
    refine WP.getF fX6_19 h0.1 (dg tX6_isTrialSafe 6 rfl) ?_
    refine WP.aload_n 0 (dg tX6_isTrialSafe 7 rfl) rfl rfl ?_
    refine WP.getF fX6_33 h0.1 (dg tX6_isTrialSafe 8 rfl) ?_
    refine WP.iload_n 1 (dg tX6_isTrialSafe 9 rfl) rfl rfl ?_
    refine WP.callVv (As := [.ref (x0 + 10), .int x1]) (st := []) vX6_298 h0.2.2.1.1 rfl rfl ⟨Nat.le_of_ble_eq_true rfl, Nat.le_of_ble_eq_true rfl⟩ (Nat.le_of_ble_eq_true rfl) rfl (dg tX6_isTrialSafe 10 rfl) h (fun M1 h => ?_)
    refine WP.aload_n 0 (dg tX6_isTrialSafe 11 rfl) rfl rfl ?_
    refine WP.getR fX6_53 h0.1 (dg tX6_isTrialSafe 12 rfl) ?_
    refine WP.topr (fun r2 e_r2 => ?_)
    obtain ⟨o_r2, h⟩ := h r2 e_r2
    refine WP.aload_n 0 (dg tX6_isTrialSafe 13 rfl) rfl rfl ?_
    refine WP.getF fX6_33 h0.1 (dg tX6_isTrialSafe 14 rfl) ?_
    refine WP.callVi (As := [.ref (x0 + 10)]) (st := []) vX6_159 o_r2.1 rfl rfl ⟨Nat.le_of_ble_eq_true rfl, Nat.le_of_ble_eq_true rfl⟩ (Nat.le_of_ble_eq_true rfl) rfl (dg tX6_isTrialSafe 15 rfl) h (fun v4 M3 h => ?_)
    refine WP.pop (dg tX6_isTrialSafe 16 rfl) rfl ?_
    refine WP.aload_n 0 (dg tX6_isTrialSafe 17 rfl) rfl rfl ?_
    refine WP.getF fX6_33 h0.1 (dg tX6_isTrialSafe 18 rfl) ?_
    refine WP.getI fX6_144 h0.2.2.2.2.1.1 (dg tX6_isTrialSafe 19 rfl) ?_
    refine WP.aload_n 0 (dg tX6_isTrialSafe 20 rfl) rfl rfl ?_
    refine WP.getF fX6_40 h0.1 (dg tX6_isTrialSafe 21 rfl) ?_
    refine WP.getF fX6_105 h0.2.2.2.2.2.1.1 (dg tX6_isTrialSafe 22 rfl) ?_
    refine WP.getI fX6_144 h0.2.2.2.2.2.1.2.1.1 (dg tX6_isTrialSafe 23 rfl) ?_
    refine WP.icmp_eq (tgt := 54) (dg tX6_isTrialSafe 24 rfl) (by decide) (fun z => ?_) (fun z => ?_)
    · replace h := h.1 z
      obtain ⟨v5, e_v5⟩ : ∃ y : Int32, y = x1 + 1 := ⟨_, rfl⟩
      have h := h v5 e_v5
      refine WP.iinc (v := v5) (L2 := [(1, .int v5), (0, .ref x0)]) 1 (dg tX6_isTrialSafe 27 rfl) rfl (by rw [e_v5]; rfl) (by decide) rfl ?_
      refine WP.goto (tgt := 2) (dg tX6_isTrialSafe 28 rfl) (by decide) ?_
      refine WP.sub [1, 0] rfl ?_
      exact h
    · replace h := h.2 z
      refine WP.iconst (v := 0) (dg tX6_isTrialSafe 25 rfl) (by decide) ?_
      exact WP.zret rfl (by decide) (dg tX6_isTrialSafe 26 rfl) ⟨_, rfl, h⟩
theorem sg_X6_isChance_0 {T : Th} {M : Mm} {Q : Int32 → Mm → Prop} {x0 : Nat} {x1 : Int32} {x2 : Int32} {x3 : Int32} (h0 : isX6 T x0)
    (h : ∀ r1 : Nat, r1 = M.2.2 x0 7 → isX1 T r1 ∧ (WPi T mX1_hasWagon [.ref r1, .int x1] M (fun v3 M2 => (v3 = 0 → Q 0 M2) ∧ (¬ v3 = 0 → (x2 < 0 → Q 0 M2) ∧ (¬ x2 < 0 → (10 < x2 → Q 0 M2) ∧ (¬ 10 < x2 → (x3 < 0 → Q 0 M2) ∧ (¬ x3 < 0 → (12 < x3 → Q 0 M2) ∧ (¬ 12 < x3 → Q 1 M2)))))))) :
    WP T mX6_isChance 0 [(0, .ref x0), (1, .int x1), (2, .int x2), (3, .int x3)] [] M (qi Q) := by
  refine WP.aload_n 0 (dg tX6_isChance 0 rfl) rfl rfl ?_
  refine WP.getR fX6_53 h0.1 (dg tX6_isChance 1 rfl) ?_
  refine WP.topr (fun r1 e_r1 => ?_)
  obtain ⟨o_r1, h⟩ := h r1 e_r1
  refine WP.iload_n 1 (dg tX6_isChance 2 rfl) rfl rfl ?_
  refine WP.callVi (As := [.int x1]) (st := []) vX6_102 o_r1.1 rfl rfl ⟨Nat.le_of_ble_eq_true rfl, Nat.le_of_ble_eq_true rfl⟩ (Nat.le_of_ble_eq_true rfl) rfl (dg tX6_isChance 3 rfl) h (fun v3 M2 h => ?_)
  refine WP.if_eq (tgt := 35) (dg tX6_isChance 4 rfl) (by decide) (fun z => ?_) (fun z => ?_)
  · replace h := h.1 z
    refine WP.iconst (v := 0) (dg tX6_isChance 17 rfl) (by decide) ?_
    exact WP.zret rfl (by decide) (dg tX6_isChance 18 rfl) ⟨_, rfl, h⟩
  · replace h := h.2 z
    refine WP.iload_n 2 (dg tX6_isChance 5 rfl) rfl rfl ?_
    refine WP.if_lt (tgt := 35) (dg tX6_isChance 6 rfl) (by decide) (fun z => ?_) (fun z => ?_)
    · replace h := h.1 z
      refine WP.iconst (v := 0) (dg tX6_isChance 17 rfl) (by decide) ?_
      exact WP.zret rfl (by decide) (dg tX6_isChance 18 rfl) ⟨_, rfl, h⟩
    · replace h := h.2 z
      refine WP.iload_n 2 (dg tX6_isChance 7 rfl) rfl rfl ?_
      refine WP.bipush (v := 10) (dg tX6_isChance 8 rfl) (by decide) ?_
      refine WP.icmp_gt (tgt := 35) (dg tX6_isChance 9 rfl) (by decide) (fun z => ?_) (fun z => ?_)
      · replace h := h.1 z
        refine WP.iconst (v := 0) (dg tX6_isChance 17 rfl) (by decide) ?_
        exact WP.zret rfl (by decide) (dg tX6_isChance 18 rfl) ⟨_, rfl, h⟩
      · replace h := h.2 z
        refine WP.iload_n 3 (dg tX6_isChance 10 rfl) rfl rfl ?_
        refine WP.if_lt (tgt := 35) (dg tX6_isChance 11 rfl) (by decide) (fun z => ?_) (fun z => ?_)
        · replace h := h.1 z
          refine WP.iconst (v := 0) (dg tX6_isChance 17 rfl) (by decide) ?_
          exact WP.zret rfl (by decide) (dg tX6_isChance 18 rfl) ⟨_, rfl, h⟩
        · replace h := h.2 z
          refine WP.iload_n 3 (dg tX6_isChance 12 rfl) rfl rfl ?_
          refine WP.bipush (v := 12) (dg tX6_isChance 13 rfl) (by decide) ?_
          refine WP.icmp_gt (tgt := 35) (dg tX6_isChance 14 rfl) (by decide) (fun z => ?_) (fun z => ?_)
          · replace h := h.1 z
            refine WP.iconst (v := 0) (dg tX6_isChance 17 rfl) (by decide) ?_
            exact WP.zret rfl (by decide) (dg tX6_isChance 18 rfl) ⟨_, rfl, h⟩
          · replace h := h.2 z
            refine WP.iconst (v := 1) (dg tX6_isChance 15 rfl) (by decide) ?_
            refine WP.goto (tgt := 36) (dg tX6_isChance 16 rfl) (by decide) ?_
            exact WP.zret rfl (by decide) (dg tX6_isChance 18 rfl) ⟨_, rfl, h⟩
theorem sg_X6_powerOfTen_0 {T : Th} {M : Mm} {Q : Int64 → Mm → Prop} {x0 : Int32} 
    (h : WP T mX6_powerOfTen 4 [(0, .int x0), (1, .long 1), (3, .int 0)] [] M (ql Q)) :
    WP T mX6_powerOfTen 0 [(0, .int x0)] [] M (ql Q) := by
  refine WP.lconst (v := 1) (dg tX6_powerOfTen 0 rfl) (by decide) ?_
  refine WP.lstore_n (L2 := [(1, .long 1), (0, .int x0)]) (dg tX6_powerOfTen 1 rfl) rfl (by decide) rfl ?_
  refine WP.iconst (v := 0) (dg tX6_powerOfTen 2 rfl) (by decide) ?_
  refine WP.istore_n (L2 := [(3, .int 0), (1, .long 1), (0, .int x0)]) (dg tX6_powerOfTen 3 rfl) rfl (by decide) rfl ?_
  refine WP.sub [2, 1, 0] rfl ?_
  exact h
theorem sg_X6_powerOfTen_4 {T : Th} {M : Mm} {Q : Int64 → Mm → Prop} {x0 : Int32} {x1 : Int64} {x3 : Int32} 
    (h : (x0 ≤ x3 → Q x1 M) ∧ (¬ x0 ≤ x3 → (12 ≤ x3 → Q x1 M) ∧ (¬ 12 ≤ x3 → ∀ v1 : Int64, v1 = x1 * 10 → ∀ v2 : Int32, v2 = x3 + 1 → WP T mX6_powerOfTen 4 [(0, .int x0), (1, .long v1), (3, .int v2)] [] M (ql Q)))) :
    WP T mX6_powerOfTen 4 [(0, .int x0), (1, .long x1), (3, .int x3)] [] M (ql Q) := by
  refine WP.iload_n 2 (dg tX6_powerOfTen 4 rfl) rfl rfl ?_
  refine WP.iload_n 0 (dg tX6_powerOfTen 5 rfl) rfl rfl ?_
  refine WP.icmp_ge (tgt := 27) (dg tX6_powerOfTen 6 rfl) (by decide) (fun z => ?_) (fun z => ?_)
  · replace h := h.1 z
    refine WP.lload_n 1 (dg tX6_powerOfTen 16 rfl) rfl rfl ?_
    exact WP.lret rfl (dg tX6_powerOfTen 17 rfl) ⟨_, rfl, h⟩
  · replace h := h.2 z
    refine WP.iload_n 2 (dg tX6_powerOfTen 7 rfl) rfl rfl ?_
    refine WP.bipush (v := 12) (dg tX6_powerOfTen 8 rfl) (by decide) ?_
    refine WP.icmp_ge (tgt := 27) (dg tX6_powerOfTen 9 rfl) (by decide) (fun z => ?_) (fun z => ?_)
    · replace h := h.1 z
      refine WP.lload_n 1 (dg tX6_powerOfTen 16 rfl) rfl rfl ?_
      exact WP.lret rfl (dg tX6_powerOfTen 17 rfl) ⟨_, rfl, h⟩
    · replace h := h.2 z
      refine WP.lload_n 1 (dg tX6_powerOfTen 10 rfl) rfl rfl ?_
      refine WP.ldc2 (v := 10) kX6_258 (dg tX6_powerOfTen 11 rfl) ?_
      refine WP.lmul (dg tX6_powerOfTen 12 rfl) ?_
      refine WP.topl (fun v1 e_v1 => ?_)
      have h := h v1 e_v1
      refine WP.lstore_n (L2 := [(1, .long v1), (0, .int x0), (3, .int x3)]) (dg tX6_powerOfTen 13 rfl) rfl (by decide) rfl ?_
      obtain ⟨v2, e_v2⟩ : ∃ y : Int32, y = x3 + 1 := ⟨_, rfl⟩
      have h := h v2 e_v2
      refine WP.iinc (v := v2) (L2 := [(3, .int v2), (1, .long v1), (0, .int x0)]) 2 (dg tX6_powerOfTen 14 rfl) rfl (by rw [e_v2]; rfl) (by decide) rfl ?_
      refine WP.goto (tgt := 4) (dg tX6_powerOfTen 15 rfl) (by decide) ?_
      refine WP.sub [2, 1, 0] rfl ?_
      exact h
theorem sg_X6_commonDivisor_0 {T : Th} {M : Mm} {Q : Int64 → Mm → Prop} {x0 : Int64} {x2 : Int64} 
    (h : WP T mX6_commonDivisor 9 [(4, .long x0), (6, .long x2), (8, .int 0)] [] M (ql Q)) :
    WP T mX6_commonDivisor 0 [(0, .long x0), (2, .long x2)] [] M (ql Q) := by
  refine WP.lload_n 0 (dg tX6_commonDivisor 0 rfl) rfl rfl ?_
  refine WP.lstore (L2 := [(4, .long x0), (0, .long x0), (2, .long x2)]) (dg tX6_commonDivisor 1 rfl) (by decide) rfl ?_
  refine WP.lload_n 2 (dg tX6_commonDivisor 2 rfl) rfl rfl ?_
  refine WP.lstore (L2 := [(6, .long x2), (4, .long x0), (0, .long x0), (2, .long x2)]) (dg tX6_commonDivisor 3 rfl) (by decide) rfl ?_
  refine WP.iconst (v := 0) (dg tX6_commonDivisor 4 rfl) (by decide) ?_
  refine WP.istore (L2 := [(8, .int 0), (6, .long x2), (4, .long x0), (0, .long x0), (2, .long x2)]) (dg tX6_commonDivisor 5 rfl) (by decide) rfl ?_
  refine WP.sub [2, 1, 0] rfl ?_
  exact h
theorem sg_X6_commonDivisor_9 {T : Th} {M : Mm} {Q : Int64 → Mm → Prop} {x4 : Int64} {x6 : Int64} {x8 : Int32} 
    (h : (100 ≤ x8 → Q x4 M) ∧ (¬ 100 ≤ x8 → ((lg_cmp x6 0) = 0 → Q x4 M) ∧ (¬ (lg_cmp x6 0) = 0 → ¬ x6 = 0 ∧ (∀ v1 : Int64, v1 = x4 - x4 / x6 * x6 → ∀ v2 : Int32, v2 = x8 + 1 → WP T mX6_commonDivisor 9 [(4, .long x6), (6, .long v1), (8, .int v2)] [] M (ql Q))))) :
    WP T mX6_commonDivisor 9 [(4, .long x4), (6, .long x6), (8, .int x8)] [] M (ql Q) := by
  refine WP.iload 2 (dg tX6_commonDivisor 6 rfl) rfl ?_
  refine WP.bipush (v := 100) (dg tX6_commonDivisor 7 rfl) (by decide) ?_
  refine WP.icmp_ge (tgt := 44) (dg tX6_commonDivisor 8 rfl) (by decide) (fun z => ?_) (fun z => ?_)
  · replace h := h.1 z
    refine WP.lload 0 (dg tX6_commonDivisor 23 rfl) rfl ?_
    exact WP.lret rfl (dg tX6_commonDivisor 24 rfl) ⟨_, rfl, h⟩
  · replace h := h.2 z
    refine WP.lload 1 (dg tX6_commonDivisor 9 rfl) rfl ?_
    refine WP.lconst (v := 0) (dg tX6_commonDivisor 10 rfl) (by decide) ?_
    refine WP.lcmp (dg tX6_commonDivisor 11 rfl) ?_
    refine WP.if_eq (tgt := 44) (dg tX6_commonDivisor 12 rfl) (by decide) (fun z => ?_) (fun z => ?_)
    · replace h := h.1 z
      refine WP.lload 0 (dg tX6_commonDivisor 23 rfl) rfl ?_
      exact WP.lret rfl (dg tX6_commonDivisor 24 rfl) ⟨_, rfl, h⟩
    · replace h := h.2 z
      refine WP.lload 0 (dg tX6_commonDivisor 13 rfl) rfl ?_
      refine WP.lload 1 (dg tX6_commonDivisor 14 rfl) rfl ?_
      obtain ⟨hz27, h⟩ := h
      refine WP.lrem (dg tX6_commonDivisor 15 rfl) hz27 ?_
      refine WP.topl (fun v1 e_v1 => ?_)
      have h := h v1 e_v1
      refine WP.lstore (L2 := [(9, .long v1), (4, .long x4), (6, .long x6), (8, .int x8)]) (dg tX6_commonDivisor 16 rfl) (by decide) rfl ?_
      refine WP.lload 2 (dg tX6_commonDivisor 17 rfl) rfl ?_
      refine WP.lstore (L2 := [(4, .long x6), (9, .long v1), (6, .long x6), (8, .int x8)]) (dg tX6_commonDivisor 18 rfl) (by decide) rfl ?_
      refine WP.lload 1 (dg tX6_commonDivisor 19 rfl) rfl ?_
      refine WP.lstore (L2 := [(6, .long v1), (4, .long x6), (9, .long v1), (8, .int x8)]) (dg tX6_commonDivisor 20 rfl) (by decide) rfl ?_
      obtain ⟨v2, e_v2⟩ : ∃ y : Int32, y = x8 + 1 := ⟨_, rfl⟩
      have h := h v2 e_v2
      refine WP.iinc (v := v2) (L2 := [(8, .int v2), (6, .long v1), (4, .long x6), (9, .long v1)]) 3 (dg tX6_commonDivisor 21 rfl) rfl (by rw [e_v2]; rfl) (by decide) rfl ?_
      refine WP.goto (tgt := 9) (dg tX6_commonDivisor 22 rfl) (by decide) ?_
      refine WP.sub [2, 1, 0] rfl ?_
      exact h
theorem sg_X6_wagonMark_0 {T : Th} {M : Mm} {Q : Int32 → Mm → Prop} {x0 : Nat} {x1 : Int32} (h0 : isX6 T x0)
    (h : ∀ M1 : Mm, M1 = sL M x0 9 ((M.2.1 x0 9) + 1) → vp_in x1 5 ∧ (Q (M1.1 (((x0 + 16) + 1) + 1) x1.toNatClampNeg) M1)) :
    WP T mX6_wagonMark 0 [(0, .ref x0), (1, .int x1)] [] M (qi Q) := by
  refine WP.aload_n 0 (dg tX6_wagonMark 0 rfl) rfl rfl ?_
  refine WP.dup (dg tX6_wagonMark 1 rfl) rfl ?_
  refine WP.getL fX6_287 h0.1 (dg tX6_wagonMark 2 rfl) ?_
  refine WP.lconst (v := 1) (dg tX6_wagonMark 3 rfl) (by decide) ?_
  refine WP.ladd (dg tX6_wagonMark 4 rfl) ?_
  refine WP.putL fX6_287 h0.1 (dg tX6_wagonMark 5 rfl) (fun M1 e_M1 => ?_)
  have h := h M1 e_M1
  refine WP.aload_n 0 (dg tX6_wagonMark 6 rfl) rfl rfl ?_
  refine WP.getF fX6_40 h0.1 (dg tX6_wagonMark 7 rfl) ?_
  refine WP.getF fX6_105 h0.2.2.2.2.2.1.1 (dg tX6_wagonMark 8 rfl) ?_
  refine WP.getF fX6_108 h0.2.2.2.2.2.1.2.1.1 (dg tX6_wagonMark 9 rfl) ?_
  refine WP.iload_n 1 (dg tX6_wagonMark 10 rfl) rfl rfl ?_
  obtain ⟨hb21, h⟩ := h
  refine WP.iald h0.2.2.2.2.2.1.2.1.2.1 hb21 (dg tX6_wagonMark 11 rfl) ?_
  exact WP.iret rfl (dg tX6_wagonMark 12 rfl) ⟨_, rfl, h⟩
theorem sg_X6_forgeMark_0 {T : Th} {M : Mm} {Q : Int32 → Mm → Prop} {x0 : Nat} {x1 : Int32} (h0 : isX6 T x0)
    (h : ∀ M1 : Mm, M1 = sL M x0 9 ((M.2.1 x0 9) + 10) → WPi T mX6_wagonMark [.ref x0, .int x1] M1 (fun v3 M2 => vp_in x1 5 ∧ (Q (v3 + (M2.1 (((x0 + 16) + 1) + 5) x1.toNatClampNeg)) M2))) :
    WP T mX6_forgeMark 0 [(0, .ref x0), (1, .int x1)] [] M (qi Q) := by
  refine WP.aload_n 0 (dg tX6_forgeMark 0 rfl) rfl rfl ?_
  refine WP.dup (dg tX6_forgeMark 1 rfl) rfl ?_
  refine WP.getL fX6_287 h0.1 (dg tX6_forgeMark 2 rfl) ?_
  refine WP.ldc2 (v := 10) kX6_258 (dg tX6_forgeMark 3 rfl) ?_
  refine WP.ladd (dg tX6_forgeMark 4 rfl) ?_
  refine WP.putL fX6_287 h0.1 (dg tX6_forgeMark 5 rfl) (fun M1 e_M1 => ?_)
  have h := h M1 e_M1
  refine WP.aload_n 0 (dg tX6_forgeMark 6 rfl) rfl rfl ?_
  refine WP.iload_n 1 (dg tX6_forgeMark 7 rfl) rfl rfl ?_
  refine WP.callVi (As := [.int x1]) (st := []) vX6_260 h0.1 rfl rfl ⟨Nat.le_of_ble_eq_true rfl, Nat.le_of_ble_eq_true rfl⟩ (Nat.le_of_ble_eq_true rfl) rfl (dg tX6_forgeMark 8 rfl) h (fun v3 M2 h => ?_)
  refine WP.aload_n 0 (dg tX6_forgeMark 9 rfl) rfl rfl ?_
  refine WP.getF fX6_40 h0.1 (dg tX6_forgeMark 10 rfl) ?_
  refine WP.getF fX6_105 h0.2.2.2.2.2.1.1 (dg tX6_forgeMark 11 rfl) ?_
  refine WP.getF fX6_126 h0.2.2.2.2.2.1.2.1.1 (dg tX6_forgeMark 12 rfl) ?_
  refine WP.iload_n 1 (dg tX6_forgeMark 13 rfl) rfl rfl ?_
  obtain ⟨hb28, h⟩ := h
  refine WP.iald h0.2.2.2.2.2.1.2.1.2.2.2.2.2 hb28 (dg tX6_forgeMark 14 rfl) ?_
  refine WP.iadd (dg tX6_forgeMark 15 rfl) ?_
  exact WP.iret rfl (dg tX6_forgeMark 16 rfl) ⟨_, rfl, h⟩
theorem sg_X6_chapelMark_0 {T : Th} {M : Mm} {Q : Int32 → Mm → Prop} {x0 : Nat} {x1 : Int32} (h0 : isX6 T x0)
    (h : ∀ M1 : Mm, M1 = sL M x0 9 ((M.2.1 x0 9) + 100) → WPi T mX6_wagonMark [.ref x0, .int x1] M1 (fun v3 M2 => ∀ r4 : Nat, r4 = M2.2.2 x0 7 → isX1 T r4 ∧ (vp_in x1 5 ∧ (Q (v3 - (M2.1 (r4 + 2) x1.toNatClampNeg)) M2)))) :
    WP T mX6_chapelMark 0 [(0, .ref x0), (1, .int x1)] [] M (qi Q) := by
  refine WP.aload_n 0 (dg tX6_chapelMark 0 rfl) rfl rfl ?_
  refine WP.dup (dg tX6_chapelMark 1 rfl) rfl ?_
  refine WP.getL fX6_287 h0.1 (dg tX6_chapelMark 2 rfl) ?_
  refine WP.ldc2 (v := 100) kX6_302 (dg tX6_chapelMark 3 rfl) ?_
  refine WP.ladd (dg tX6_chapelMark 4 rfl) ?_
  refine WP.putL fX6_287 h0.1 (dg tX6_chapelMark 5 rfl) (fun M1 e_M1 => ?_)
  have h := h M1 e_M1
  refine WP.aload_n 0 (dg tX6_chapelMark 6 rfl) rfl rfl ?_
  refine WP.iload_n 1 (dg tX6_chapelMark 7 rfl) rfl rfl ?_
  refine WP.callVi (As := [.int x1]) (st := []) vX6_260 h0.1 rfl rfl ⟨Nat.le_of_ble_eq_true rfl, Nat.le_of_ble_eq_true rfl⟩ (Nat.le_of_ble_eq_true rfl) rfl (dg tX6_chapelMark 8 rfl) h (fun v3 M2 h => ?_)
  refine WP.aload_n 0 (dg tX6_chapelMark 9 rfl) rfl rfl ?_
  refine WP.getR fX6_53 h0.1 (dg tX6_chapelMark 10 rfl) ?_
  refine WP.topr (fun r4 e_r4 => ?_)
  obtain ⟨o_r4, h⟩ := h r4 e_r4
  refine WP.getF fX6_111 o_r4.1 (dg tX6_chapelMark 11 rfl) ?_
  refine WP.iload_n 1 (dg tX6_chapelMark 12 rfl) rfl rfl ?_
  obtain ⟨hb25, h⟩ := h
  refine WP.iald o_r4.2.2.1 hb25 (dg tX6_chapelMark 13 rfl) ?_
  refine WP.isub (dg tX6_chapelMark 14 rfl) ?_
  exact WP.iret rfl (dg tX6_chapelMark 15 rfl) ⟨_, rfl, h⟩
theorem sg_X6_tenderMark_0 {T : Th} {M : Mm} {Q : Int32 → Mm → Prop} {x0 : Nat} {x1 : Int32} (h0 : isX6 T x0)
    (h : ∀ M1 : Mm, M1 = sL M x0 9 ((M.2.1 x0 9) + 1000) → WPi T mX6_forgeMark [.ref x0, .int x1] M1 (fun v3 M2 => Q (v3 * 2) M2)) :
    WP T mX6_tenderMark 0 [(0, .ref x0), (1, .int x1)] [] M (qi Q) := by
  refine WP.aload_n 0 (dg tX6_tenderMark 0 rfl) rfl rfl ?_
  refine WP.dup (dg tX6_tenderMark 1 rfl) rfl ?_
  refine WP.getL fX6_287 h0.1 (dg tX6_tenderMark 2 rfl) ?_
  refine WP.ldc2 (v := 1000) kX6_304 (dg tX6_tenderMark 3 rfl) ?_
  refine WP.ladd (dg tX6_tenderMark 4 rfl) ?_
  refine WP.putL fX6_287 h0.1 (dg tX6_tenderMark 5 rfl) (fun M1 e_M1 => ?_)
  have h := h M1 e_M1
  refine WP.aload_n 0 (dg tX6_tenderMark 6 rfl) rfl rfl ?_
  refine WP.iload_n 1 (dg tX6_tenderMark 7 rfl) rfl rfl ?_
  refine WP.callVi (As := [.int x1]) (st := []) vX6_263 h0.1 rfl rfl ⟨Nat.le_of_ble_eq_true rfl, Nat.le_of_ble_eq_true rfl⟩ (Nat.le_of_ble_eq_true rfl) rfl (dg tX6_tenderMark 8 rfl) h (fun v3 M2 h => ?_)
  refine WP.iconst (v := 2) (dg tX6_tenderMark 9 rfl) (by decide) ?_
  refine WP.imul (dg tX6_tenderMark 10 rfl) ?_
  exact WP.iret rfl (dg tX6_tenderMark 11 rfl) ⟨_, rfl, h⟩
theorem sg_X6_houseMark_0 {T : Th} {M : Mm} {Q : Int32 → Mm → Prop} {x0 : Nat} {x1 : Int32} (h0 : isX6 T x0)
    (h : ∀ M1 : Mm, M1 = sL M x0 9 ((M.2.1 x0 9) + 10000) → WPi T mX6_chapelMark [.ref x0, .int x1] M1 (fun v3 M2 => vp_in x1 5 ∧ (Q (v3 + (M2.1 (((x0 + 16) + 1) + 2) x1.toNatClampNeg)) M2))) :
    WP T mX6_houseMark 0 [(0, .ref x0), (1, .int x1)] [] M (qi Q) := by
  refine WP.aload_n 0 (dg tX6_houseMark 0 rfl) rfl rfl ?_
  refine WP.dup (dg tX6_houseMark 1 rfl) rfl ?_
  refine WP.getL fX6_287 h0.1 (dg tX6_houseMark 2 rfl) ?_
  refine WP.ldc2 (v := 10000) kX6_306 (dg tX6_houseMark 3 rfl) ?_
  refine WP.ladd (dg tX6_houseMark 4 rfl) ?_
  refine WP.putL fX6_287 h0.1 (dg tX6_houseMark 5 rfl) (fun M1 e_M1 => ?_)
  have h := h M1 e_M1
  refine WP.aload_n 0 (dg tX6_houseMark 6 rfl) rfl rfl ?_
  refine WP.iload_n 1 (dg tX6_houseMark 7 rfl) rfl rfl ?_
  refine WP.callVi (As := [.int x1]) (st := []) vX6_266 h0.1 rfl rfl ⟨Nat.le_of_ble_eq_true rfl, Nat.le_of_ble_eq_true rfl⟩ (Nat.le_of_ble_eq_true rfl) rfl (dg tX6_houseMark 8 rfl) h (fun v3 M2 h => ?_)
  refine WP.aload_n 0 (dg tX6_houseMark 9 rfl) rfl rfl ?_
  refine WP.getF fX6_40 h0.1 (dg tX6_houseMark 10 rfl) ?_
  refine WP.getF fX6_105 h0.2.2.2.2.2.1.1 (dg tX6_houseMark 11 rfl) ?_
  refine WP.getF fX6_117 h0.2.2.2.2.2.1.2.1.1 (dg tX6_houseMark 12 rfl) ?_
  refine WP.iload_n 1 (dg tX6_houseMark 13 rfl) rfl rfl ?_
  obtain ⟨hb28, h⟩ := h
  refine WP.iald h0.2.2.2.2.2.1.2.1.2.2.1 hb28 (dg tX6_houseMark 14 rfl) ?_
  refine WP.iadd (dg tX6_houseMark 15 rfl) ?_
  exact WP.iret rfl (dg tX6_houseMark 16 rfl) ⟨_, rfl, h⟩
theorem sg_X6_railcartMark_0 {T : Th} {M : Mm} {Q : Int32 → Mm → Prop} {x0 : Nat} {x1 : Int32} (h0 : isX6 T x0)
    (h : ∀ M1 : Mm, M1 = sL M x0 9 ((M.2.1 x0 9) + 100000) → ∀ r2 : Nat, r2 = M1.2.2 x0 7 → isX1 T r2 ∧ (∀ r3 : Nat, r3 = M1.2.2 x0 7 → isX1 T r3 ∧ (WPi T mX1_sunWay [.ref r2, .int (M1.1 ((x0 + 16) + 1) 0), .int (M1.1 r3 2)] M1 (fun v5 M4 => WPi T mX6_wagonMark [.ref x0, .int x1] M4 (fun v7 M6 => vp_in x1 5 ∧ (Q ((v7 + (M6.1 (((x0 + 16) + 1) + 1) x1.toNatClampNeg)) - v5) M6)))))) :
    WP T mX6_railcartMark 0 [(0, .ref x0), (1, .int x1)] [] M (qi Q) := by
  refine WP.aload_n 0 (dg tX6_railcartMark 0 rfl) rfl rfl ?_
  refine WP.dup (dg tX6_railcartMark 1 rfl) rfl ?_
  refine WP.getL fX6_287 h0.1 (dg tX6_railcartMark 2 rfl) ?_
  refine WP.ldc2 (v := 100000) kX6_308 (dg tX6_railcartMark 3 rfl) ?_
  refine WP.ladd (dg tX6_railcartMark 4 rfl) ?_
  refine WP.putL fX6_287 h0.1 (dg tX6_railcartMark 5 rfl) (fun M1 e_M1 => ?_)
  have h := h M1 e_M1
  refine WP.aload_n 0 (dg tX6_railcartMark 6 rfl) rfl rfl ?_
  refine WP.getR fX6_53 h0.1 (dg tX6_railcartMark 7 rfl) ?_
  refine WP.topr (fun r2 e_r2 => ?_)
  obtain ⟨o_r2, h⟩ := h r2 e_r2
  refine WP.aload_n 0 (dg tX6_railcartMark 8 rfl) rfl rfl ?_
  refine WP.getF fX6_40 h0.1 (dg tX6_railcartMark 9 rfl) ?_
  refine WP.getF fX6_105 h0.2.2.2.2.2.1.1 (dg tX6_railcartMark 10 rfl) ?_
  refine WP.getI fX6_132 h0.2.2.2.2.2.1.2.1.1 (dg tX6_railcartMark 11 rfl) ?_
  refine WP.aload_n 0 (dg tX6_railcartMark 12 rfl) rfl rfl ?_
  refine WP.getR fX6_53 h0.1 (dg tX6_railcartMark 13 rfl) ?_
  refine WP.topr (fun r3 e_r3 => ?_)
  obtain ⟨o_r3, h⟩ := h r3 e_r3
  refine WP.getI fX6_141 o_r3.1 (dg tX6_railcartMark 14 rfl) ?_
  refine WP.callVi (As := [.int (M1.1 ((x0 + 16) + 1) 0), .int (M1.1 r3 2)]) (st := []) vX6_152 o_r2.1 rfl rfl ⟨Nat.le_of_ble_eq_true rfl, Nat.le_of_ble_eq_true rfl⟩ (Nat.le_of_ble_eq_true rfl) rfl (dg tX6_railcartMark 15 rfl) h (fun v5 M4 h => ?_)
  refine WP.istore_n (L2 := [(2, .int v5), (0, .ref x0), (1, .int x1)]) (dg tX6_railcartMark 16 rfl) rfl (by decide) rfl ?_
  refine WP.aload_n 1 (dg tX6_railcartMark 17 rfl) rfl rfl ?_
  refine WP.iload_n 2 (dg tX6_railcartMark 18 rfl) rfl rfl ?_
  refine WP.callVi (As := [.int x1]) (st := []) vX6_260 h0.1 rfl rfl ⟨Nat.le_of_ble_eq_true rfl, Nat.le_of_ble_eq_true rfl⟩ (Nat.le_of_ble_eq_true rfl) rfl (dg tX6_railcartMark 19 rfl) h (fun v7 M6 h => ?_)
  refine WP.aload_n 1 (dg tX6_railcartMark 20 rfl) rfl rfl ?_
  refine WP.getF fX6_40 h0.1 (dg tX6_railcartMark 21 rfl) ?_
  refine WP.getF fX6_105 h0.2.2.2.2.2.1.1 (dg tX6_railcartMark 22 rfl) ?_
  refine WP.getF fX6_108 h0.2.2.2.2.2.1.2.1.1 (dg tX6_railcartMark 23 rfl) ?_
  refine WP.iload_n 2 (dg tX6_railcartMark 24 rfl) rfl rfl ?_
  obtain ⟨hb53, h⟩ := h
  refine WP.iald h0.2.2.2.2.2.1.2.1.2.1 hb53 (dg tX6_railcartMark 25 rfl) ?_
  refine WP.iadd (dg tX6_railcartMark 26 rfl) ?_
  refine WP.iload_n 0 (dg tX6_railcartMark 27 rfl) rfl rfl ?_
  refine WP.isub (dg tX6_railcartMark 28 rfl) ?_
  exact WP.iret rfl (dg tX6_railcartMark 29 rfl) ⟨_, rfl, h⟩
