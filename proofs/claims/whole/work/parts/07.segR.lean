theorem sg_X7_in_0 {T : Th} {M : Mm} {Q : Int32 → Mm → Prop} {x0 : Int32} {x1 : Int32} {x2 : Int32} 
    (h : (x0 < x1 → Q 0 M) ∧ (¬ x0 < x1 → (x2 < x0 → Q 0 M) ∧ (¬ x2 < x0 → Q 1 M))) :
    WP T mX7_in 0 [(0, .int x0), (1, .int x1), (2, .int x2)] [] M (qi Q) := by
  refine WP.iload_n 0 (dg tX7_in 0 rfl) rfl rfl ?_
  refine WP.iload_n 1 (dg tX7_in 1 rfl) rfl rfl ?_
  refine WP.icmp_lt (tgt := 14) (dg tX7_in 2 rfl) (by decide) (fun z => ?_) (fun z => ?_)
  · replace h := h.1 z
    refine WP.iconst (v := 0) (dg tX7_in 8 rfl) (by decide) ?_
    exact WP.zret rfl (by decide) (dg tX7_in 9 rfl) ⟨_, rfl, h⟩
  · replace h := h.2 z
    refine WP.iload_n 0 (dg tX7_in 3 rfl) rfl rfl ?_
    refine WP.iload_n 2 (dg tX7_in 4 rfl) rfl rfl ?_
    refine WP.icmp_gt (tgt := 14) (dg tX7_in 5 rfl) (by decide) (fun z => ?_) (fun z => ?_)
    · replace h := h.1 z
      refine WP.iconst (v := 0) (dg tX7_in 8 rfl) (by decide) ?_
      exact WP.zret rfl (by decide) (dg tX7_in 9 rfl) ⟨_, rfl, h⟩
    · replace h := h.2 z
      refine WP.iconst (v := 1) (dg tX7_in 6 rfl) (by decide) ?_
      refine WP.goto (tgt := 15) (dg tX7_in 7 rfl) (by decide) ?_
      exact WP.zret rfl (by decide) (dg tX7_in 9 rfl) ⟨_, rfl, h⟩
theorem sg_X7_type_0 {T : Th} {M : Mm} {Q : Int32 → Mm → Prop} {x0 : Nat} {x1 : Int32} (h0 : isX7 T x0)
    (h : WPi T mX7_in [.int x1, .int 0, .int 255] M (fun v2 M1 => (¬ v2 = 0 → (¬ (M1.1 x0 2) = 200 → vp_in (M1.1 x0 2) 200 ∧ (∀ M3 : Mm, M3 = sI M1 (x0 + 1) (M1.1 x0 2).toNatClampNeg (vp_nar .byte x1.toInt8.toInt32) → ∀ M4 : Mm, M4 = sI M3 x0 2 ((M3.1 x0 2) + 1) → Q (M4.1 x0 2) M4)) ∧ ((M1.1 x0 2) = 200 → Q (-3) M1)) ∧ (v2 = 0 → Q (-1) M1))) :
    WP T mX7_type 0 [(0, .ref x0), (1, .int x1)] [] M (qi Q) := by
  refine WP.iload_n 1 (dg tX7_type 0 rfl) rfl rfl ?_
  refine WP.iconst (v := 0) (dg tX7_type 1 rfl) (by decide) ?_
  refine WP.sipush (v := 255) (dg tX7_type 2 rfl) (by decide) ?_
  refine WP.callSi (As := [.int x1, .int 0, .int 255]) (st := []) vX7_88 rfl ⟨Nat.le_of_ble_eq_true rfl, Nat.le_of_ble_eq_true rfl⟩ (Nat.le_of_ble_eq_true rfl) rfl (dg tX7_type 3 rfl) h (fun v2 M1 h => ?_)
  refine WP.if_ne (tgt := 13) (dg tX7_type 4 rfl) (by decide) (fun z => ?_) (fun z => ?_)
  · replace h := h.1 z
    refine WP.aload_n 0 (dg tX7_type 7 rfl) rfl rfl ?_
    refine WP.getI fX7_92 h0.1 (dg tX7_type 8 rfl) ?_
    refine WP.sipush (v := 200) (dg tX7_type 9 rfl) (by decide) ?_
    refine WP.icmp_ne (tgt := 26) (dg tX7_type 10 rfl) (by decide) (fun z => ?_) (fun z => ?_)
    · replace h := h.1 z
      refine WP.aload_n 0 (dg tX7_type 13 rfl) rfl rfl ?_
      refine WP.getF fX7_7 h0.1 (dg tX7_type 14 rfl) ?_
      refine WP.aload_n 0 (dg tX7_type 15 rfl) rfl rfl ?_
      refine WP.getI fX7_92 h0.1 (dg tX7_type 16 rfl) ?_
      refine WP.iload_n 1 (dg tX7_type 17 rfl) rfl rfl ?_
      refine WP.i2b (dg tX7_type 18 rfl) ?_
      obtain ⟨hb36, h⟩ := h
      refine WP.bast h0.2.1 hb36 (dg tX7_type 19 rfl) (fun M3 e_M3 => ?_)
      have h := h M3 e_M3
      refine WP.aload_n 0 (dg tX7_type 20 rfl) rfl rfl ?_
      refine WP.dup (dg tX7_type 21 rfl) rfl ?_
      refine WP.getI fX7_92 h0.1 (dg tX7_type 22 rfl) ?_
      refine WP.iconst (v := 1) (dg tX7_type 23 rfl) (by decide) ?_
      refine WP.iadd (dg tX7_type 24 rfl) ?_
      refine WP.putI fX7_92 h0.1 (dg tX7_type 25 rfl) (fun M4 e_M4 => ?_)
      have h := h M4 e_M4
      refine WP.aload_n 0 (dg tX7_type 26 rfl) rfl rfl ?_
      refine WP.getI fX7_92 h0.1 (dg tX7_type 27 rfl) ?_
      exact WP.iret rfl (dg tX7_type 28 rfl) ⟨_, rfl, h⟩
    · replace h := h.2 z
      refine WP.bipush (v := (-3)) (dg tX7_type 11 rfl) (by decide) ?_
      exact WP.iret rfl (dg tX7_type 12 rfl) ⟨_, rfl, h⟩
  · replace h := h.2 z
    refine WP.iconst (v := (-1)) (dg tX7_type 5 rfl) (by decide) ?_
    exact WP.iret rfl (dg tX7_type 6 rfl) ⟨_, rfl, h⟩
theorem sg_X7_clear_0 {T : Th} {M : Mm} {Q : Int32 → Mm → Prop} {x0 : Nat} (h0 : isX7 T x0)
    (h : ∀ v1 : Int32, v1 = M.1 x0 2 → ∀ M2 : Mm, M2 = sI M x0 2 0 → Q v1 M2) :
    WP T mX7_clear 0 [(0, .ref x0)] [] M (qi Q) := by
  refine WP.aload_n 0 (dg tX7_clear 0 rfl) rfl rfl ?_
  refine WP.getI fX7_92 h0.1 (dg tX7_clear 1 rfl) ?_
  refine WP.topi (fun v1 e_v1 => ?_)
  have h := h v1 e_v1
  refine WP.istore_n (L2 := [(1, .int v1), (0, .ref x0)]) (dg tX7_clear 2 rfl) rfl (by decide) rfl ?_
  refine WP.aload_n 1 (dg tX7_clear 3 rfl) rfl rfl ?_
  refine WP.iconst (v := 0) (dg tX7_clear 4 rfl) (by decide) ?_
  refine WP.putI fX7_92 h0.1 (dg tX7_clear 5 rfl) (fun M2 e_M2 => ?_)
  have h := h M2 e_M2
  refine WP.iload_n 0 (dg tX7_clear 6 rfl) rfl rfl ?_
  exact WP.iret rfl (dg tX7_clear 7 rfl) ⟨_, rfl, h⟩
theorem sg_X7_here_0 {T : Th} {M : Mm} {Q : Int32 → Mm → Prop} {x0 : Nat} (h0 : isX7 T x0)
    (h : ((M.1 x0 2) ≤ (M.1 x0 18) → Q (-1) M) ∧ (¬ (M.1 x0 2) ≤ (M.1 x0 18) → vp_in (M.1 x0 18) 200 ∧ (Q ((M.1 (x0 + 1) (M.1 x0 18).toNatClampNeg) &&& 255) M))) :
    WP T mX7_here 0 [(0, .ref x0)] [] M (qi Q) := by
  refine WP.aload_n 0 (dg tX7_here 0 rfl) rfl rfl ?_
  refine WP.getI fX7_96 h0.1 (dg tX7_here 1 rfl) ?_
  refine WP.aload_n 0 (dg tX7_here 2 rfl) rfl rfl ?_
  refine WP.getI fX7_92 h0.1 (dg tX7_here 3 rfl) ?_
  refine WP.icmp_ge (tgt := 27) (dg tX7_here 4 rfl) (by decide) (fun z => ?_) (fun z => ?_)
  · replace h := h.1 z
    refine WP.iconst (v := (-1)) (dg tX7_here 13 rfl) (by decide) ?_
    exact WP.iret rfl (dg tX7_here 14 rfl) ⟨_, rfl, h⟩
  · replace h := h.2 z
    refine WP.aload_n 0 (dg tX7_here 5 rfl) rfl rfl ?_
    refine WP.getF fX7_7 h0.1 (dg tX7_here 6 rfl) ?_
    refine WP.aload_n 0 (dg tX7_here 7 rfl) rfl rfl ?_
    refine WP.getI fX7_96 h0.1 (dg tX7_here 8 rfl) ?_
    obtain ⟨hb19, h⟩ := h
    refine WP.bald h0.2.1 hb19 (dg tX7_here 9 rfl) ?_
    refine WP.sipush (v := 255) (dg tX7_here 10 rfl) (by decide) ?_
    refine WP.iand (dg tX7_here 11 rfl) ?_
    refine WP.goto (tgt := 28) (dg tX7_here 12 rfl) (by decide) ?_
    exact WP.iret rfl (dg tX7_here 14 rfl) ⟨_, rfl, h⟩
theorem sg_X7_next_0 {T : Th} {M : Mm} {Q : Mm → Prop} {x0 : Nat} (h0 : isX7 T x0)
    (h : WPi T mX7_here [.ref x0] M (fun v2 M1 => (¬ v2 = 32 → ∀ M3 : Mm, M3 = sI M1 x0 19 (M1.1 x0 18) → ∀ M4 : Mm, M4 = sI M3 x0 21 0 → WPi T mX7_here [.ref x0] M4 (fun v6 M5 => (0 ≤ v6 → WPi T mX7_in [.int v6, .int 97, .int 122] M5 (fun v8 M7 => (v8 = 0 → WPi T mX7_in [.int v6, .int 48, .int 57] M7 (fun v10 M9 => (v10 = 0 → ∀ M11 : Mm, M11 = sI M9 x0 18 ((M9.1 x0 18) + 1) → (¬ v6 = 59 → ∀ M12 : Mm, M12 = sI M11 x0 20 4 → Q M12) ∧ (v6 = 59 → ∀ M12 : Mm, M12 = sI M11 x0 20 2 → Q M12)) ∧ (¬ v10 = 0 → WP T mX7_next 126 [(0, .ref x0), (1, .int v6)] [] M9 (qv Q)))) ∧ (¬ v8 = 0 → WP T mX7_next 63 [(0, .ref x0), (1, .int v6)] [] M7 (qv Q)))) ∧ (¬ 0 ≤ v6 → ∀ M7 : Mm, M7 = sI M5 x0 20 3 → Q M7))) ∧ (v2 = 32 → ∀ M3 : Mm, M3 = sI M1 x0 18 ((M1.1 x0 18) + 1) → WP T mX7_next 0 [(0, .ref x0)] [] M3 (qv Q)))) :
    WP T mX7_next 0 [(0, .ref x0)] [] M (qv Q) := by
  refine WP.aload_n 0 (dg tX7_next 0 rfl) rfl rfl ?_
  refine WP.callVi (As := []) (st := []) vX7_99 h0.1 rfl rfl ⟨Nat.le_of_ble_eq_true rfl, Nat.le_of_ble_eq_true rfl⟩ (Nat.le_of_ble_eq_true rfl) rfl (dg tX7_next 1 rfl) h (fun v2 M1 h => ?_)
  refine WP.bipush (v := 32) (dg tX7_next 2 rfl) (by decide) ?_
  refine WP.icmp_ne (tgt := 22) (dg tX7_next 3 rfl) (by decide) (fun z => ?_) (fun z => ?_)
  · replace h := h.1 z
    refine WP.aload_n 0 (dg tX7_next 11 rfl) rfl rfl ?_
    refine WP.aload_n 0 (dg tX7_next 12 rfl) rfl rfl ?_
    refine WP.getI fX7_96 h0.1 (dg tX7_next 13 rfl) ?_
    refine WP.putI fX7_103 h0.1 (dg tX7_next 14 rfl) (fun M3 e_M3 => ?_)
    have h := h M3 e_M3
    refine WP.aload_n 0 (dg tX7_next 15 rfl) rfl rfl ?_
    refine WP.iconst (v := 0) (dg tX7_next 16 rfl) (by decide) ?_
    refine WP.putI fX7_106 h0.1 (dg tX7_next 17 rfl) (fun M4 e_M4 => ?_)
    have h := h M4 e_M4
    refine WP.aload_n 0 (dg tX7_next 18 rfl) rfl rfl ?_
    refine WP.callVi (As := []) (st := []) vX7_99 h0.1 rfl rfl ⟨Nat.le_of_ble_eq_true rfl, Nat.le_of_ble_eq_true rfl⟩ (Nat.le_of_ble_eq_true rfl) rfl (dg tX7_next 19 rfl) h (fun v6 M5 h => ?_)
    refine WP.istore_n (L2 := [(1, .int v6), (0, .ref x0)]) (dg tX7_next 20 rfl) rfl (by decide) rfl ?_
    refine WP.iload_n 0 (dg tX7_next 21 rfl) rfl rfl ?_
    refine WP.if_ge (tgt := 52) (dg tX7_next 22 rfl) (by decide) (fun z => ?_) (fun z => ?_)
    · replace h := h.1 z
      refine WP.iload_n 0 (dg tX7_next 27 rfl) rfl rfl ?_
      refine WP.bipush (v := 97) (dg tX7_next 28 rfl) (by decide) ?_
      refine WP.bipush (v := 122) (dg tX7_next 29 rfl) (by decide) ?_
      refine WP.callSi (As := [.int v6, .int 97, .int 122]) (st := []) vX7_88 rfl ⟨Nat.le_of_ble_eq_true rfl, Nat.le_of_ble_eq_true rfl⟩ (Nat.le_of_ble_eq_true rfl) rfl (dg tX7_next 30 rfl) h (fun v8 M7 h => ?_)
      refine WP.if_eq (tgt := 115) (dg tX7_next 31 rfl) (by decide) (fun z => ?_) (fun z => ?_)
      · replace h := h.1 z
        refine WP.iload_n 0 (dg tX7_next 58 rfl) rfl rfl ?_
        refine WP.bipush (v := 48) (dg tX7_next 59 rfl) (by decide) ?_
        refine WP.bipush (v := 57) (dg tX7_next 60 rfl) (by decide) ?_
        refine WP.callSi (As := [.int v6, .int 48, .int 57]) (st := []) vX7_88 rfl ⟨Nat.le_of_ble_eq_true rfl, Nat.le_of_ble_eq_true rfl⟩ (Nat.le_of_ble_eq_true rfl) rfl (dg tX7_next 61 rfl) h (fun v10 M9 h => ?_)
        refine WP.if_eq (tgt := 228) (dg tX7_next 62 rfl) (by decide) (fun z => ?_) (fun z => ?_)
        · replace h := h.1 z
          refine WP.aload_n 1 (dg tX7_next 114 rfl) rfl rfl ?_
          refine WP.dup (dg tX7_next 115 rfl) rfl ?_
          refine WP.getI fX7_96 h0.1 (dg tX7_next 116 rfl) ?_
          refine WP.iconst (v := 1) (dg tX7_next 117 rfl) (by decide) ?_
          refine WP.iadd (dg tX7_next 118 rfl) ?_
          refine WP.putI fX7_96 h0.1 (dg tX7_next 119 rfl) (fun M11 e_M11 => ?_)
          have h := h M11 e_M11
          refine WP.aload_n 1 (dg tX7_next 120 rfl) rfl rfl ?_
          refine WP.iload_n 0 (dg tX7_next 121 rfl) rfl rfl ?_
          refine WP.bipush (v := 59) (dg tX7_next 122 rfl) (by decide) ?_
          refine WP.icmp_ne (tgt := 249) (dg tX7_next 123 rfl) (by decide) (fun z => ?_) (fun z => ?_)
          · replace h := h.1 z
            refine WP.iconst (v := 4) (dg tX7_next 126 rfl) (by decide) ?_
            refine WP.putI fX7_109 h0.1 (dg tX7_next 127 rfl) (fun M12 e_M12 => ?_)
            have h := h M12 e_M12
            exact WP.vret rfl (dg tX7_next 128 rfl) ⟨rfl, h⟩
          · replace h := h.2 z
            refine WP.iconst (v := 2) (dg tX7_next 124 rfl) (by decide) ?_
            refine WP.goto (tgt := 250) (dg tX7_next 125 rfl) (by decide) ?_
            refine WP.putI fX7_109 h0.1 (dg tX7_next 127 rfl) (fun M12 e_M12 => ?_)
            have h := h M12 e_M12
            exact WP.vret rfl (dg tX7_next 128 rfl) ⟨rfl, h⟩
        · replace h := h.2 z
          refine WP.sub [1, 0] rfl ?_
          exact h
      · replace h := h.2 z
        refine WP.sub [1, 0] rfl ?_
        exact h
    · replace h := h.2 z
      refine WP.aload_n 1 (dg tX7_next 23 rfl) rfl rfl ?_
      refine WP.iconst (v := 3) (dg tX7_next 24 rfl) (by decide) ?_
      refine WP.putI fX7_109 h0.1 (dg tX7_next 25 rfl) (fun M7 e_M7 => ?_)
      have h := h M7 e_M7
      refine WP.goto (tgt := 253) (dg tX7_next 26 rfl) (by decide) ?_
      exact WP.vret rfl (dg tX7_next 128 rfl) ⟨rfl, h⟩
  · replace h := h.2 z
    refine WP.aload_n 0 (dg tX7_next 4 rfl) rfl rfl ?_
    refine WP.dup (dg tX7_next 5 rfl) rfl ?_
    refine WP.getI fX7_96 h0.1 (dg tX7_next 6 rfl) ?_
    refine WP.iconst (v := 1) (dg tX7_next 7 rfl) (by decide) ?_
    refine WP.iadd (dg tX7_next 8 rfl) ?_
    refine WP.putI fX7_96 h0.1 (dg tX7_next 9 rfl) (fun M3 e_M3 => ?_)
    have h := h M3 e_M3
    refine WP.goto (tgt := 0) (dg tX7_next 10 rfl) (by decide) ?_
    exact h
theorem sg_X7_next_126 {T : Th} {M : Mm} {Q : Mm → Prop} {x0 : Nat} {x1 : Int32} (h0 : isX7 T x0)
    (h : WPi T mX7_here [.ref x0] M (fun v2 M1 => WPi T mX7_in [.int v2, .int 48, .int 57] M1 (fun v4 M3 => (v4 = 0 → (99 < (M3.1 x0 21) → ∀ M5 : Mm, M5 = sI M3 x0 20 4 → Q M5) ∧ (¬ 99 < (M3.1 x0 21) → (¬ x1 = 48 → ∀ M5 : Mm, M5 = sI M3 x0 20 1 → Q M5) ∧ (x1 = 48 → (((M3.1 x0 18) - (M3.1 x0 19)) ≤ 1 → ∀ M5 : Mm, M5 = sI M3 x0 20 1 → Q M5) ∧ (¬ ((M3.1 x0 18) - (M3.1 x0 19)) ≤ 1 → ∀ M5 : Mm, M5 = sI M3 x0 20 4 → Q M5)))) ∧ (¬ v4 = 0 → ((M3.1 x0 21) ≤ 99 → WPi T mX7_here [.ref x0] M3 (fun v6 M5 => ∀ M7 : Mm, M7 = sI M5 x0 21 (((10 * (M3.1 x0 21)) + v6) - 48) → ∀ M8 : Mm, M8 = sI M7 x0 18 ((M7.1 x0 18) + 1) → WP T mX7_next 126 [(0, .ref x0), (1, .int x1)] [] M8 (qv Q))) ∧ (¬ (M3.1 x0 21) ≤ 99 → ∀ M5 : Mm, M5 = sI M3 x0 21 (M3.1 x0 21) → ∀ M6 : Mm, M6 = sI M5 x0 18 ((M5.1 x0 18) + 1) → WP T mX7_next 126 [(0, .ref x0), (1, .int x1)] [] M6 (qv Q)))))) :
    WP T mX7_next 126 [(0, .ref x0), (1, .int x1)] [] M (qv Q) := by
  refine WP.aload_n 0 (dg tX7_next 63 rfl) rfl rfl ?_
  refine WP.callVi (As := []) (st := []) vX7_99 h0.1 rfl rfl ⟨Nat.le_of_ble_eq_true rfl, Nat.le_of_ble_eq_true rfl⟩ (Nat.le_of_ble_eq_true rfl) rfl (dg tX7_next 64 rfl) h (fun v2 M1 h => ?_)
  refine WP.bipush (v := 48) (dg tX7_next 65 rfl) (by decide) ?_
  refine WP.bipush (v := 57) (dg tX7_next 66 rfl) (by decide) ?_
  refine WP.callSi (As := [.int v2, .int 48, .int 57]) (st := []) vX7_88 rfl ⟨Nat.le_of_ble_eq_true rfl, Nat.le_of_ble_eq_true rfl⟩ (Nat.le_of_ble_eq_true rfl) rfl (dg tX7_next 67 rfl) h (fun v4 M3 h => ?_)
  refine WP.if_eq (tgt := 188) (dg tX7_next 68 rfl) (by decide) (fun z => ?_) (fun z => ?_)
  · replace h := h.1 z
    refine WP.aload_n 0 (dg tX7_next 94 rfl) rfl rfl ?_
    refine WP.aload_n 0 (dg tX7_next 95 rfl) rfl rfl ?_
    refine WP.getI fX7_106 h0.1 (dg tX7_next 96 rfl) ?_
    refine WP.bipush (v := 99) (dg tX7_next 97 rfl) (by decide) ?_
    refine WP.icmp_gt (tgt := 217) (dg tX7_next 98 rfl) (by decide) (fun z => ?_) (fun z => ?_)
    · replace h := h.1 z
      refine WP.iconst (v := 4) (dg tX7_next 109 rfl) (by decide) ?_
      refine WP.goto (tgt := 222) (dg tX7_next 110 rfl) (by decide) ?_
      refine WP.putI fX7_109 h0.1 (dg tX7_next 112 rfl) (fun M5 e_M5 => ?_)
      have h := h M5 e_M5
      refine WP.goto (tgt := 253) (dg tX7_next 113 rfl) (by decide) ?_
      exact WP.vret rfl (dg tX7_next 128 rfl) ⟨rfl, h⟩
    · replace h := h.2 z
      refine WP.iload_n 1 (dg tX7_next 99 rfl) rfl rfl ?_
      refine WP.bipush (v := 48) (dg tX7_next 100 rfl) (by decide) ?_
      refine WP.icmp_ne (tgt := 221) (dg tX7_next 101 rfl) (by decide) (fun z => ?_) (fun z => ?_)
      · replace h := h.1 z
        refine WP.iconst (v := 1) (dg tX7_next 111 rfl) (by decide) ?_
        refine WP.putI fX7_109 h0.1 (dg tX7_next 112 rfl) (fun M5 e_M5 => ?_)
        have h := h M5 e_M5
        refine WP.goto (tgt := 253) (dg tX7_next 113 rfl) (by decide) ?_
        exact WP.vret rfl (dg tX7_next 128 rfl) ⟨rfl, h⟩
      · replace h := h.2 z
        refine WP.aload_n 0 (dg tX7_next 102 rfl) rfl rfl ?_
        refine WP.getI fX7_96 h0.1 (dg tX7_next 103 rfl) ?_
        refine WP.aload_n 0 (dg tX7_next 104 rfl) rfl rfl ?_
        refine WP.getI fX7_103 h0.1 (dg tX7_next 105 rfl) ?_
        refine WP.isub (dg tX7_next 106 rfl) ?_
        refine WP.iconst (v := 1) (dg tX7_next 107 rfl) (by decide) ?_
        refine WP.icmp_le (tgt := 221) (dg tX7_next 108 rfl) (by decide) (fun z => ?_) (fun z => ?_)
        · replace h := h.1 z
          refine WP.iconst (v := 1) (dg tX7_next 111 rfl) (by decide) ?_
          refine WP.putI fX7_109 h0.1 (dg tX7_next 112 rfl) (fun M5 e_M5 => ?_)
          have h := h M5 e_M5
          refine WP.goto (tgt := 253) (dg tX7_next 113 rfl) (by decide) ?_
          exact WP.vret rfl (dg tX7_next 128 rfl) ⟨rfl, h⟩
        · replace h := h.2 z
          refine WP.iconst (v := 4) (dg tX7_next 109 rfl) (by decide) ?_
          refine WP.goto (tgt := 222) (dg tX7_next 110 rfl) (by decide) ?_
          refine WP.putI fX7_109 h0.1 (dg tX7_next 112 rfl) (fun M5 e_M5 => ?_)
          have h := h M5 e_M5
          refine WP.goto (tgt := 253) (dg tX7_next 113 rfl) (by decide) ?_
          exact WP.vret rfl (dg tX7_next 128 rfl) ⟨rfl, h⟩
  · replace h := h.2 z
    refine WP.aload_n 0 (dg tX7_next 69 rfl) rfl rfl ?_
    refine WP.aload_n 0 (dg tX7_next 70 rfl) rfl rfl ?_
    refine WP.getI fX7_106 h0.1 (dg tX7_next 71 rfl) ?_
    refine WP.bipush (v := 99) (dg tX7_next 72 rfl) (by decide) ?_
    refine WP.icmp_le (tgt := 157) (dg tX7_next 73 rfl) (by decide) (fun z => ?_) (fun z => ?_)
    · replace h := h.1 z
      refine WP.bipush (v := 10) (dg tX7_next 77 rfl) (by decide) ?_
      refine WP.aload_n 0 (dg tX7_next 78 rfl) rfl rfl ?_
      refine WP.getI fX7_106 h0.1 (dg tX7_next 79 rfl) ?_
      refine WP.imul (dg tX7_next 80 rfl) ?_
      refine WP.aload_n 0 (dg tX7_next 81 rfl) rfl rfl ?_
      refine WP.callVi (As := []) (st := [.int (10 * (M3.1 x0 21)), .ref x0]) vX7_99 h0.1 rfl rfl ⟨Nat.le_of_ble_eq_true rfl, Nat.le_of_ble_eq_true rfl⟩ (Nat.le_of_ble_eq_true rfl) rfl (dg tX7_next 82 rfl) h (fun v6 M5 h => ?_)
      refine WP.iadd (dg tX7_next 83 rfl) ?_
      refine WP.bipush (v := 48) (dg tX7_next 84 rfl) (by decide) ?_
      refine WP.isub (dg tX7_next 85 rfl) ?_
      refine WP.putI fX7_106 h0.1 (dg tX7_next 86 rfl) (fun M7 e_M7 => ?_)
      have h := h M7 e_M7
      refine WP.aload_n 0 (dg tX7_next 87 rfl) rfl rfl ?_
      refine WP.dup (dg tX7_next 88 rfl) rfl ?_
      refine WP.getI fX7_96 h0.1 (dg tX7_next 89 rfl) ?_
      refine WP.iconst (v := 1) (dg tX7_next 90 rfl) (by decide) ?_
      refine WP.iadd (dg tX7_next 91 rfl) ?_
      refine WP.putI fX7_96 h0.1 (dg tX7_next 92 rfl) (fun M8 e_M8 => ?_)
      have h := h M8 e_M8
      refine WP.goto (tgt := 126) (dg tX7_next 93 rfl) (by decide) ?_
      exact h
    · replace h := h.2 z
      refine WP.aload_n 0 (dg tX7_next 74 rfl) rfl rfl ?_
      refine WP.getI fX7_106 h0.1 (dg tX7_next 75 rfl) ?_
      refine WP.goto (tgt := 172) (dg tX7_next 76 rfl) (by decide) ?_
      refine WP.putI fX7_106 h0.1 (dg tX7_next 86 rfl) (fun M5 e_M5 => ?_)
      have h := h M5 e_M5
      refine WP.aload_n 0 (dg tX7_next 87 rfl) rfl rfl ?_
      refine WP.dup (dg tX7_next 88 rfl) rfl ?_
      refine WP.getI fX7_96 h0.1 (dg tX7_next 89 rfl) ?_
      refine WP.iconst (v := 1) (dg tX7_next 90 rfl) (by decide) ?_
      refine WP.iadd (dg tX7_next 91 rfl) ?_
      refine WP.putI fX7_96 h0.1 (dg tX7_next 92 rfl) (fun M6 e_M6 => ?_)
      have h := h M6 e_M6
      refine WP.goto (tgt := 126) (dg tX7_next 93 rfl) (by decide) ?_
      exact h
theorem sg_X7_next_63 {T : Th} {M : Mm} {Q : Mm → Prop} {x0 : Nat} {x1 : Int32} (h0 : isX7 T x0)
    (h : WPi T mX7_here [.ref x0] M (fun v2 M1 => WPi T mX7_in [.int v2, .int 97, .int 122] M1 (fun v4 M3 => (v4 = 0 → (¬ ((M3.1 x0 18) - (M3.1 x0 19)) = 1 → ∀ M5 : Mm, M5 = sI M3 x0 20 4 → Q M5) ∧ (((M3.1 x0 18) - (M3.1 x0 19)) = 1 → ∀ M5 : Mm, M5 = sI M3 x0 20 x1 → Q M5)) ∧ (¬ v4 = 0 → ∀ M5 : Mm, M5 = sI M3 x0 18 ((M3.1 x0 18) + 1) → WP T mX7_next 63 [(0, .ref x0), (1, .int x1)] [] M5 (qv Q))))) :
    WP T mX7_next 63 [(0, .ref x0), (1, .int x1)] [] M (qv Q) := by
  refine WP.aload_n 0 (dg tX7_next 32 rfl) rfl rfl ?_
  refine WP.callVi (As := []) (st := []) vX7_99 h0.1 rfl rfl ⟨Nat.le_of_ble_eq_true rfl, Nat.le_of_ble_eq_true rfl⟩ (Nat.le_of_ble_eq_true rfl) rfl (dg tX7_next 33 rfl) h (fun v2 M1 h => ?_)
  refine WP.bipush (v := 97) (dg tX7_next 34 rfl) (by decide) ?_
  refine WP.bipush (v := 122) (dg tX7_next 35 rfl) (by decide) ?_
  refine WP.callSi (As := [.int v2, .int 97, .int 122]) (st := []) vX7_88 rfl ⟨Nat.le_of_ble_eq_true rfl, Nat.le_of_ble_eq_true rfl⟩ (Nat.le_of_ble_eq_true rfl) rfl (dg tX7_next 36 rfl) h (fun v4 M3 h => ?_)
  refine WP.if_eq (tgt := 90) (dg tX7_next 37 rfl) (by decide) (fun z => ?_) (fun z => ?_)
  · replace h := h.1 z
    refine WP.aload_n 0 (dg tX7_next 45 rfl) rfl rfl ?_
    refine WP.aload_n 0 (dg tX7_next 46 rfl) rfl rfl ?_
    refine WP.getI fX7_96 h0.1 (dg tX7_next 47 rfl) ?_
    refine WP.aload_n 0 (dg tX7_next 48 rfl) rfl rfl ?_
    refine WP.getI fX7_103 h0.1 (dg tX7_next 49 rfl) ?_
    refine WP.isub (dg tX7_next 50 rfl) ?_
    refine WP.iconst (v := 1) (dg tX7_next 51 rfl) (by decide) ?_
    refine WP.icmp_ne (tgt := 108) (dg tX7_next 52 rfl) (by decide) (fun z => ?_) (fun z => ?_)
    · replace h := h.1 z
      refine WP.iconst (v := 4) (dg tX7_next 55 rfl) (by decide) ?_
      refine WP.putI fX7_109 h0.1 (dg tX7_next 56 rfl) (fun M5 e_M5 => ?_)
      have h := h M5 e_M5
      refine WP.goto (tgt := 253) (dg tX7_next 57 rfl) (by decide) ?_
      exact WP.vret rfl (dg tX7_next 128 rfl) ⟨rfl, h⟩
    · replace h := h.2 z
      refine WP.iload_n 1 (dg tX7_next 53 rfl) rfl rfl ?_
      refine WP.goto (tgt := 109) (dg tX7_next 54 rfl) (by decide) ?_
      refine WP.putI fX7_109 h0.1 (dg tX7_next 56 rfl) (fun M5 e_M5 => ?_)
      have h := h M5 e_M5
      refine WP.goto (tgt := 253) (dg tX7_next 57 rfl) (by decide) ?_
      exact WP.vret rfl (dg tX7_next 128 rfl) ⟨rfl, h⟩
  · replace h := h.2 z
    refine WP.aload_n 0 (dg tX7_next 38 rfl) rfl rfl ?_
    refine WP.dup (dg tX7_next 39 rfl) rfl ?_
    refine WP.getI fX7_96 h0.1 (dg tX7_next 40 rfl) ?_
    refine WP.iconst (v := 1) (dg tX7_next 41 rfl) (by decide) ?_
    refine WP.iadd (dg tX7_next 42 rfl) ?_
    refine WP.putI fX7_96 h0.1 (dg tX7_next 43 rfl) (fun M5 e_M5 => ?_)
    have h := h M5 e_M5
    refine WP.goto (tgt := 63) (dg tX7_next 44 rfl) (by decide) ?_
    exact h
theorem sg_X7_due_0 {T : Th} {M : Mm} {Q : Int32 → Mm → Prop} {x0 : Nat} {x1 : Int32} (h0 : isX7 T x0)
    (h : ∀ v1 : Int32, v1 = M.1 x0 21 → (¬ (M.1 x0 22) = (-9) → Q v1 M) ∧ ((M.1 x0 22) = (-9) → (x1 = 0 → ∀ M2 : Mm, M2 = sI M x0 22 (M.1 x0 19) → Q v1 M2) ∧ (¬ x1 = 0 → WPv T mX7_next [.ref x0] M (fun M2 => Q v1 M2)))) :
    WP T mX7_due 0 [(0, .ref x0), (1, .int x1)] [] M (qi Q) := by
  refine WP.aload_n 0 (dg tX7_due 0 rfl) rfl rfl ?_
  refine WP.getI fX7_106 h0.1 (dg tX7_due 1 rfl) ?_
  refine WP.topi (fun v1 e_v1 => ?_)
  have h := h v1 e_v1
  refine WP.istore_n (L2 := [(2, .int v1), (0, .ref x0), (1, .int x1)]) (dg tX7_due 2 rfl) rfl (by decide) rfl ?_
  refine WP.aload_n 1 (dg tX7_due 3 rfl) rfl rfl ?_
  refine WP.getI fX7_112 h0.1 (dg tX7_due 4 rfl) ?_
  refine WP.bipush (v := (-9)) (dg tX7_due 5 rfl) (by decide) ?_
  refine WP.icmp_ne (tgt := 33) (dg tX7_due 6 rfl) (by decide) (fun z => ?_) (fun z => ?_)
  · replace h := h.1 z
    refine WP.iload_n 0 (dg tX7_due 16 rfl) rfl rfl ?_
    exact WP.iret rfl (dg tX7_due 17 rfl) ⟨_, rfl, h⟩
  · replace h := h.2 z
    refine WP.iload_n 2 (dg tX7_due 7 rfl) rfl rfl ?_
    refine WP.if_eq (tgt := 25) (dg tX7_due 8 rfl) (by decide) (fun z => ?_) (fun z => ?_)
    · replace h := h.1 z
      refine WP.aload_n 1 (dg tX7_due 12 rfl) rfl rfl ?_
      refine WP.aload_n 1 (dg tX7_due 13 rfl) rfl rfl ?_
      refine WP.getI fX7_103 h0.1 (dg tX7_due 14 rfl) ?_
      refine WP.putI fX7_112 h0.1 (dg tX7_due 15 rfl) (fun M2 e_M2 => ?_)
      have h := h M2 e_M2
      refine WP.iload_n 0 (dg tX7_due 16 rfl) rfl rfl ?_
      exact WP.iret rfl (dg tX7_due 17 rfl) ⟨_, rfl, h⟩
    · replace h := h.2 z
      refine WP.aload_n 1 (dg tX7_due 9 rfl) rfl rfl ?_
      refine WP.callVv (As := []) (st := []) vX7_115 h0.1 rfl rfl ⟨Nat.le_of_ble_eq_true rfl, Nat.le_of_ble_eq_true rfl⟩ (Nat.le_of_ble_eq_true rfl) rfl (dg tX7_due 10 rfl) h (fun M2 h => ?_)
      refine WP.goto (tgt := 33) (dg tX7_due 11 rfl) (by decide) ?_
      refine WP.iload_n 0 (dg tX7_due 16 rfl) rfl rfl ?_
      exact WP.iret rfl (dg tX7_due 17 rfl) ⟨_, rfl, h⟩
theorem sg_X7_number_0 {T : Th} {M : Mm} {Q : Int32 → Mm → Prop} {x0 : Nat} {x1 : Int32} {x2 : Int32} (h0 : isX7 T x0)
    (h : (¬ (M.1 x0 20) = 1 → WPi T mX7_due [.ref x0, .int 0] M (fun v2 M1 => Q v2 M1)) ∧ ((M.1 x0 20) = 1 → WPi T mX7_in [.int (M.1 x0 21), .int x1, .int x2] M (fun v2 M1 => (v2 = 0 → WPi T mX7_due [.ref x0, .int 0] M1 (fun v4 M3 => Q v4 M3)) ∧ (¬ v2 = 0 → WPi T mX7_due [.ref x0, .int 1] M1 (fun v4 M3 => Q v4 M3))))) :
    WP T mX7_number 0 [(0, .ref x0), (1, .int x1), (2, .int x2)] [] M (qi Q) := by
  refine WP.aload_n 0 (dg tX7_number 0 rfl) rfl rfl ?_
  refine WP.aload_n 0 (dg tX7_number 1 rfl) rfl rfl ?_
  refine WP.getI fX7_109 h0.1 (dg tX7_number 2 rfl) ?_
  refine WP.iconst (v := 1) (dg tX7_number 3 rfl) (by decide) ?_
  refine WP.icmp_ne (tgt := 25) (dg tX7_number 4 rfl) (by decide) (fun z => ?_) (fun z => ?_)
  · replace h := h.1 z
    refine WP.iconst (v := 0) (dg tX7_number 13 rfl) (by decide) ?_
    refine WP.callVi (As := [.int 0]) (st := []) vX7_118 h0.1 rfl rfl ⟨Nat.le_of_ble_eq_true rfl, Nat.le_of_ble_eq_true rfl⟩ (Nat.le_of_ble_eq_true rfl) rfl (dg tX7_number 14 rfl) h (fun v2 M1 h => ?_)
    exact WP.iret rfl (dg tX7_number 15 rfl) ⟨_, rfl, h⟩
  · replace h := h.2 z
    refine WP.aload_n 0 (dg tX7_number 5 rfl) rfl rfl ?_
    refine WP.getI fX7_106 h0.1 (dg tX7_number 6 rfl) ?_
    refine WP.iload_n 1 (dg tX7_number 7 rfl) rfl rfl ?_
    refine WP.iload_n 2 (dg tX7_number 8 rfl) rfl rfl ?_
    refine WP.callSi (As := [.int (M.1 x0 21), .int x1, .int x2]) (st := [.ref x0]) vX7_88 rfl ⟨Nat.le_of_ble_eq_true rfl, Nat.le_of_ble_eq_true rfl⟩ (Nat.le_of_ble_eq_true rfl) rfl (dg tX7_number 9 rfl) h (fun v2 M1 h => ?_)
    refine WP.if_eq (tgt := 25) (dg tX7_number 10 rfl) (by decide) (fun z => ?_) (fun z => ?_)
    · replace h := h.1 z
      refine WP.iconst (v := 0) (dg tX7_number 13 rfl) (by decide) ?_
      refine WP.callVi (As := [.int 0]) (st := []) vX7_118 h0.1 rfl rfl ⟨Nat.le_of_ble_eq_true rfl, Nat.le_of_ble_eq_true rfl⟩ (Nat.le_of_ble_eq_true rfl) rfl (dg tX7_number 14 rfl) h (fun v4 M3 h => ?_)
      exact WP.iret rfl (dg tX7_number 15 rfl) ⟨_, rfl, h⟩
    · replace h := h.2 z
      refine WP.iconst (v := 1) (dg tX7_number 11 rfl) (by decide) ?_
      refine WP.goto (tgt := 26) (dg tX7_number 12 rfl) (by decide) ?_
      refine WP.callVi (As := [.int 1]) (st := []) vX7_118 h0.1 rfl rfl ⟨Nat.le_of_ble_eq_true rfl, Nat.le_of_ble_eq_true rfl⟩ (Nat.le_of_ble_eq_true rfl) rfl (dg tX7_number 14 rfl) h (fun v4 M3 h => ?_)
      exact WP.iret rfl (dg tX7_number 15 rfl) ⟨_, rfl, h⟩
theorem sg_X7_placeTold_0 {T : Th} {M : Mm} {Q : Int32 → Mm → Prop} {x0 : Nat} (h0 : isX7 T x0)
    (h : WPi T mX7_number [.ref x0, .int 0, .int ((M.1 (x0 + 2) 1) - 1)] M (fun v2 M1 => Q v2 M1)) :
    WP T mX7_placeTold 0 [(0, .ref x0)] [] M (qi Q) := by
  refine WP.aload_n 0 (dg tX7_placeTold 0 rfl) rfl rfl ?_
  refine WP.iconst (v := 0) (dg tX7_placeTold 1 rfl) (by decide) ?_
  refine WP.aload_n 0 (dg tX7_placeTold 2 rfl) rfl rfl ?_
  refine WP.getF fX7_13 h0.1 (dg tX7_placeTold 3 rfl) ?_
  refine WP.iconst (v := 1) (dg tX7_placeTold 4 rfl) (by decide) ?_
  refine WP.ialdc (k := 1) h0.2.2.1 (by decide) (by decide) (dg tX7_placeTold 5 rfl) ?_
  refine WP.iconst (v := 1) (dg tX7_placeTold 6 rfl) (by decide) ?_
  refine WP.isub (dg tX7_placeTold 7 rfl) ?_
  refine WP.callVi (As := [.int 0, .int ((M.1 (x0 + 2) 1) - 1)]) (st := []) vX7_122 h0.1 rfl rfl ⟨Nat.le_of_ble_eq_true rfl, Nat.le_of_ble_eq_true rfl⟩ (Nat.le_of_ble_eq_true rfl) rfl (dg tX7_placeTold 8 rfl) h (fun v2 M1 h => ?_)
  exact WP.iret rfl (dg tX7_placeTold 9 rfl) ⟨_, rfl, h⟩
theorem sg_X7_mayBe_0 {T : Th} {M : Mm} {Q : Int32 → Mm → Prop} {x0 : Nat} {x1 : Int32} (h0 : isX7 T x0)
    (h : (x1 = 98 → (¬ (M.1 x0 25) = 0 → Q 0 M) ∧ ((M.1 x0 25) = 0 → Q 1 M)) ∧ (x1 = 99 ∨ x1 = 112 → Q 1 M) ∧ (x1 = 104 → (4 ≤ (M.1 (x0 + 8) 1) → Q 0 M) ∧ (¬ 4 ≤ (M.1 (x0 + 8) 1) → Q 1 M)) ∧ (x1 = 114 → (¬ (M.1 x0 23) = 0 → Q 0 M) ∧ ((M.1 x0 23) = 0 → Q 1 M)) ∧ (x1 = 115 → (¬ (M.1 x0 24) = 0 → Q 0 M) ∧ ((M.1 x0 24) = 0 → Q 1 M)) ∧ (x1 = 119 → (5 ≤ (M.1 (x0 + 7) 1) → Q 0 M) ∧ (¬ 5 ≤ (M.1 (x0 + 7) 1) → Q 1 M)) ∧ (¬ x1 = 98 ∧ ¬ x1 = 99 ∧ ¬ x1 = 104 ∧ ¬ x1 = 112 ∧ ¬ x1 = 114 ∧ ¬ x1 = 115 ∧ ¬ x1 = 119 → Q 0 M)) :
    WP T mX7_mayBe 0 [(0, .ref x0), (1, .int x1)] [] M (qi Q) := by
  refine WP.iload_n 1 (dg tX7_mayBe 0 rfl) rfl rfl ?_
  rcases tabcase x1 98 22 with hq | ⟨k, hk, hq⟩
  · replace h := h.2.2.2.2.2.2 ⟨fun e => by rw [e] at hq; revert hq; decide, fun e => by rw [e] at hq; revert hq; decide, fun e => by rw [e] at hq; revert hq; decide, fun e => by rw [e] at hq; revert hq; decide, fun e => by rw [e] at hq; revert hq; decide, fun e => by rw [e] at hq; revert hq; decide, fun e => by rw [e] at hq; revert hq; decide⟩
    refine WP.tabOut (tgt := 177) (dg tX7_mayBe 1 rfl) (by rcases hq with hq | hq <;> omega) (by decide) ?_
    refine WP.iconst (v := 0) (dg tX7_mayBe 45 rfl) (by decide) ?_
    exact WP.zret rfl (by decide) (dg tX7_mayBe 46 rfl) ⟨_, rfl, h⟩
  · rcases (show k = 0 ∨ k = 1 ∨ k = 2 ∨ k = 3 ∨ k = 4 ∨ k = 5 ∨ k = 6 ∨ k = 7 ∨ k = 8 ∨ k = 9 ∨ k = 10 ∨ k = 11 ∨ k = 12 ∨ k = 13 ∨ k = 14 ∨ k = 15 ∨ k = 16 ∨ k = 17 ∨ k = 18 ∨ k = 19 ∨ k = 20 ∨ k = 21 by omega) with rfl | rfl | rfl | rfl | rfl | rfl | rfl | rfl | rfl | rfl | rfl | rfl | rfl | rfl | rfl | rfl | rfl | rfl | rfl | rfl | rfl | rfl
    · have he : x1 = 98 := Int32.toInt_inj.mp (by rw [hq]; rfl)
      replace h := h.1 (he)
      refine WP.tabIn (off := 131) (tgt := 132) (dg tX7_mayBe 1 rfl) (by omega) (by omega) (by rw [hq]; rfl) (by decide) ?_
      refine WP.aload_n 0 (dg tX7_mayBe 18 rfl) rfl rfl ?_
      refine WP.getI fX7_133 h0.1 (dg tX7_mayBe 19 rfl) ?_
      refine WP.if_ne (tgt := 143) (dg tX7_mayBe 20 rfl) (by decide) (fun z => ?_) (fun z => ?_)
      · replace h := h.1 z
        refine WP.iconst (v := 0) (dg tX7_mayBe 23 rfl) (by decide) ?_
        exact WP.zret rfl (by decide) (dg tX7_mayBe 24 rfl) ⟨_, rfl, h⟩
      · replace h := h.2 z
        refine WP.iconst (v := 1) (dg tX7_mayBe 21 rfl) (by decide) ?_
        refine WP.goto (tgt := 144) (dg tX7_mayBe 22 rfl) (by decide) ?_
        exact WP.zret rfl (by decide) (dg tX7_mayBe 24 rfl) ⟨_, rfl, h⟩
    · have he : x1 = 99 := Int32.toInt_inj.mp (by rw [hq]; rfl)
      replace h := h.2.1 (Or.inl he)
      refine WP.tabIn (off := 116) (tgt := 117) (dg tX7_mayBe 1 rfl) (by omega) (by omega) (by rw [hq]; rfl) (by decide) ?_
      refine WP.iconst (v := 1) (dg tX7_mayBe 9 rfl) (by decide) ?_
      exact WP.zret rfl (by decide) (dg tX7_mayBe 10 rfl) ⟨_, rfl, h⟩
    · have he : x1 = 100 := Int32.toInt_inj.mp (by rw [hq]; rfl)
      replace h := h.2.2.2.2.2.2 ⟨fun e => by rw [e] at he; revert he; decide, fun e => by rw [e] at he; revert he; decide, fun e => by rw [e] at he; revert he; decide, fun e => by rw [e] at he; revert he; decide, fun e => by rw [e] at he; revert he; decide, fun e => by rw [e] at he; revert he; decide, fun e => by rw [e] at he; revert he; decide⟩
      refine WP.tabIn (off := 176) (tgt := 177) (dg tX7_mayBe 1 rfl) (by omega) (by omega) (by rw [hq]; rfl) (by decide) ?_
      refine WP.iconst (v := 0) (dg tX7_mayBe 45 rfl) (by decide) ?_
      exact WP.zret rfl (by decide) (dg tX7_mayBe 46 rfl) ⟨_, rfl, h⟩
    · have he : x1 = 101 := Int32.toInt_inj.mp (by rw [hq]; rfl)
      replace h := h.2.2.2.2.2.2 ⟨fun e => by rw [e] at he; revert he; decide, fun e => by rw [e] at he; revert he; decide, fun e => by rw [e] at he; revert he; decide, fun e => by rw [e] at he; revert he; decide, fun e => by rw [e] at he; revert he; decide, fun e => by rw [e] at he; revert he; decide, fun e => by rw [e] at he; revert he; decide⟩
      refine WP.tabIn (off := 176) (tgt := 177) (dg tX7_mayBe 1 rfl) (by omega) (by omega) (by rw [hq]; rfl) (by decide) ?_
      refine WP.iconst (v := 0) (dg tX7_mayBe 45 rfl) (by decide) ?_
      exact WP.zret rfl (by decide) (dg tX7_mayBe 46 rfl) ⟨_, rfl, h⟩
    · have he : x1 = 102 := Int32.toInt_inj.mp (by rw [hq]; rfl)
      replace h := h.2.2.2.2.2.2 ⟨fun e => by rw [e] at he; revert he; decide, fun e => by rw [e] at he; revert he; decide, fun e => by rw [e] at he; revert he; decide, fun e => by rw [e] at he; revert he; decide, fun e => by rw [e] at he; revert he; decide, fun e => by rw [e] at he; revert he; decide, fun e => by rw [e] at he; revert he; decide⟩
      refine WP.tabIn (off := 176) (tgt := 177) (dg tX7_mayBe 1 rfl) (by omega) (by omega) (by rw [hq]; rfl) (by decide) ?_
      refine WP.iconst (v := 0) (dg tX7_mayBe 45 rfl) (by decide) ?_
      exact WP.zret rfl (by decide) (dg tX7_mayBe 46 rfl) ⟨_, rfl, h⟩
    · have he : x1 = 103 := Int32.toInt_inj.mp (by rw [hq]; rfl)
      replace h := h.2.2.2.2.2.2 ⟨fun e => by rw [e] at he; revert he; decide, fun e => by rw [e] at he; revert he; decide, fun e => by rw [e] at he; revert he; decide, fun e => by rw [e] at he; revert he; decide, fun e => by rw [e] at he; revert he; decide, fun e => by rw [e] at he; revert he; decide, fun e => by rw [e] at he; revert he; decide⟩
      refine WP.tabIn (off := 176) (tgt := 177) (dg tX7_mayBe 1 rfl) (by omega) (by omega) (by rw [hq]; rfl) (by decide) ?_
      refine WP.iconst (v := 0) (dg tX7_mayBe 45 rfl) (by decide) ?_
      exact WP.zret rfl (by decide) (dg tX7_mayBe 46 rfl) ⟨_, rfl, h⟩
    · have he : x1 = 104 := Int32.toInt_inj.mp (by rw [hq]; rfl)
      replace h := h.2.2.1 (he)
      refine WP.tabIn (off := 160) (tgt := 161) (dg tX7_mayBe 1 rfl) (by omega) (by omega) (by rw [hq]; rfl) (by decide) ?_
      refine WP.aload_n 0 (dg tX7_mayBe 35 rfl) rfl rfl ?_
      refine WP.getF fX7_32 h0.1 (dg tX7_mayBe 36 rfl) ?_
      refine WP.iconst (v := 1) (dg tX7_mayBe 37 rfl) (by decide) ?_
      refine WP.ialdc (k := 1) h0.2.2.2.2.2.2.2.2.1 (by decide) (by decide) (dg tX7_mayBe 38 rfl) ?_
      refine WP.iconst (v := 4) (dg tX7_mayBe 39 rfl) (by decide) ?_
      refine WP.icmp_ge (tgt := 175) (dg tX7_mayBe 40 rfl) (by decide) (fun z => ?_) (fun z => ?_)
      · replace h := h.1 z
        refine WP.iconst (v := 0) (dg tX7_mayBe 43 rfl) (by decide) ?_
        exact WP.zret rfl (by decide) (dg tX7_mayBe 44 rfl) ⟨_, rfl, h⟩
      · replace h := h.2 z
        refine WP.iconst (v := 1) (dg tX7_mayBe 41 rfl) (by decide) ?_
        refine WP.goto (tgt := 176) (dg tX7_mayBe 42 rfl) (by decide) ?_
        exact WP.zret rfl (by decide) (dg tX7_mayBe 44 rfl) ⟨_, rfl, h⟩
    · have he : x1 = 105 := Int32.toInt_inj.mp (by rw [hq]; rfl)
      replace h := h.2.2.2.2.2.2 ⟨fun e => by rw [e] at he; revert he; decide, fun e => by rw [e] at he; revert he; decide, fun e => by rw [e] at he; revert he; decide, fun e => by rw [e] at he; revert he; decide, fun e => by rw [e] at he; revert he; decide, fun e => by rw [e] at he; revert he; decide, fun e => by rw [e] at he; revert he; decide⟩
      refine WP.tabIn (off := 176) (tgt := 177) (dg tX7_mayBe 1 rfl) (by omega) (by omega) (by rw [hq]; rfl) (by decide) ?_
      refine WP.iconst (v := 0) (dg tX7_mayBe 45 rfl) (by decide) ?_
      exact WP.zret rfl (by decide) (dg tX7_mayBe 46 rfl) ⟨_, rfl, h⟩
    · have he : x1 = 106 := Int32.toInt_inj.mp (by rw [hq]; rfl)
      replace h := h.2.2.2.2.2.2 ⟨fun e => by rw [e] at he; revert he; decide, fun e => by rw [e] at he; revert he; decide, fun e => by rw [e] at he; revert he; decide, fun e => by rw [e] at he; revert he; decide, fun e => by rw [e] at he; revert he; decide, fun e => by rw [e] at he; revert he; decide, fun e => by rw [e] at he; revert he; decide⟩
      refine WP.tabIn (off := 176) (tgt := 177) (dg tX7_mayBe 1 rfl) (by omega) (by omega) (by rw [hq]; rfl) (by decide) ?_
      refine WP.iconst (v := 0) (dg tX7_mayBe 45 rfl) (by decide) ?_
      exact WP.zret rfl (by decide) (dg tX7_mayBe 46 rfl) ⟨_, rfl, h⟩
    · have he : x1 = 107 := Int32.toInt_inj.mp (by rw [hq]; rfl)
      replace h := h.2.2.2.2.2.2 ⟨fun e => by rw [e] at he; revert he; decide, fun e => by rw [e] at he; revert he; decide, fun e => by rw [e] at he; revert he; decide, fun e => by rw [e] at he; revert he; decide, fun e => by rw [e] at he; revert he; decide, fun e => by rw [e] at he; revert he; decide, fun e => by rw [e] at he; revert he; decide⟩
      refine WP.tabIn (off := 176) (tgt := 177) (dg tX7_mayBe 1 rfl) (by omega) (by omega) (by rw [hq]; rfl) (by decide) ?_
      refine WP.iconst (v := 0) (dg tX7_mayBe 45 rfl) (by decide) ?_
      exact WP.zret rfl (by decide) (dg tX7_mayBe 46 rfl) ⟨_, rfl, h⟩
    · have he : x1 = 108 := Int32.toInt_inj.mp (by rw [hq]; rfl)
      replace h := h.2.2.2.2.2.2 ⟨fun e => by rw [e] at he; revert he; decide, fun e => by rw [e] at he; revert he; decide, fun e => by rw [e] at he; revert he; decide, fun e => by rw [e] at he; revert he; decide, fun e => by rw [e] at he; revert he; decide, fun e => by rw [e] at he; revert he; decide, fun e => by rw [e] at he; revert he; decide⟩
      refine WP.tabIn (off := 176) (tgt := 177) (dg tX7_mayBe 1 rfl) (by omega) (by omega) (by rw [hq]; rfl) (by decide) ?_
      refine WP.iconst (v := 0) (dg tX7_mayBe 45 rfl) (by decide) ?_
      exact WP.zret rfl (by decide) (dg tX7_mayBe 46 rfl) ⟨_, rfl, h⟩
    · have he : x1 = 109 := Int32.toInt_inj.mp (by rw [hq]; rfl)
      replace h := h.2.2.2.2.2.2 ⟨fun e => by rw [e] at he; revert he; decide, fun e => by rw [e] at he; revert he; decide, fun e => by rw [e] at he; revert he; decide, fun e => by rw [e] at he; revert he; decide, fun e => by rw [e] at he; revert he; decide, fun e => by rw [e] at he; revert he; decide, fun e => by rw [e] at he; revert he; decide⟩
      refine WP.tabIn (off := 176) (tgt := 177) (dg tX7_mayBe 1 rfl) (by omega) (by omega) (by rw [hq]; rfl) (by decide) ?_
      refine WP.iconst (v := 0) (dg tX7_mayBe 45 rfl) (by decide) ?_
      exact WP.zret rfl (by decide) (dg tX7_mayBe 46 rfl) ⟨_, rfl, h⟩
    · have he : x1 = 110 := Int32.toInt_inj.mp (by rw [hq]; rfl)
      replace h := h.2.2.2.2.2.2 ⟨fun e => by rw [e] at he; revert he; decide, fun e => by rw [e] at he; revert he; decide, fun e => by rw [e] at he; revert he; decide, fun e => by rw [e] at he; revert he; decide, fun e => by rw [e] at he; revert he; decide, fun e => by rw [e] at he; revert he; decide, fun e => by rw [e] at he; revert he; decide⟩
      refine WP.tabIn (off := 176) (tgt := 177) (dg tX7_mayBe 1 rfl) (by omega) (by omega) (by rw [hq]; rfl) (by decide) ?_
      refine WP.iconst (v := 0) (dg tX7_mayBe 45 rfl) (by decide) ?_
      exact WP.zret rfl (by decide) (dg tX7_mayBe 46 rfl) ⟨_, rfl, h⟩
    · have he : x1 = 111 := Int32.toInt_inj.mp (by rw [hq]; rfl)
      replace h := h.2.2.2.2.2.2 ⟨fun e => by rw [e] at he; revert he; decide, fun e => by rw [e] at he; revert he; decide, fun e => by rw [e] at he; revert he; decide, fun e => by rw [e] at he; revert he; decide, fun e => by rw [e] at he; revert he; decide, fun e => by rw [e] at he; revert he; decide, fun e => by rw [e] at he; revert he; decide⟩
      refine WP.tabIn (off := 176) (tgt := 177) (dg tX7_mayBe 1 rfl) (by omega) (by omega) (by rw [hq]; rfl) (by decide) ?_
      refine WP.iconst (v := 0) (dg tX7_mayBe 45 rfl) (by decide) ?_
      exact WP.zret rfl (by decide) (dg tX7_mayBe 46 rfl) ⟨_, rfl, h⟩
    · have he : x1 = 112 := Int32.toInt_inj.mp (by rw [hq]; rfl)
      replace h := h.2.1 (Or.inr (he))
      refine WP.tabIn (off := 116) (tgt := 117) (dg tX7_mayBe 1 rfl) (by omega) (by omega) (by rw [hq]; rfl) (by decide) ?_
      refine WP.iconst (v := 1) (dg tX7_mayBe 9 rfl) (by decide) ?_
      exact WP.zret rfl (by decide) (dg tX7_mayBe 10 rfl) ⟨_, rfl, h⟩
    · have he : x1 = 113 := Int32.toInt_inj.mp (by rw [hq]; rfl)
      replace h := h.2.2.2.2.2.2 ⟨fun e => by rw [e] at he; revert he; decide, fun e => by rw [e] at he; revert he; decide, fun e => by rw [e] at he; revert he; decide, fun e => by rw [e] at he; revert he; decide, fun e => by rw [e] at he; revert he; decide, fun e => by rw [e] at he; revert he; decide, fun e => by rw [e] at he; revert he; decide⟩
      refine WP.tabIn (off := 176) (tgt := 177) (dg tX7_mayBe 1 rfl) (by omega) (by omega) (by rw [hq]; rfl) (by decide) ?_
      refine WP.iconst (v := 0) (dg tX7_mayBe 45 rfl) (by decide) ?_
      exact WP.zret rfl (by decide) (dg tX7_mayBe 46 rfl) ⟨_, rfl, h⟩
    · have he : x1 = 114 := Int32.toInt_inj.mp (by rw [hq]; rfl)
      replace h := h.2.2.2.1 (he)
      refine WP.tabIn (off := 103) (tgt := 104) (dg tX7_mayBe 1 rfl) (by omega) (by omega) (by rw [hq]; rfl) (by decide) ?_
      refine WP.aload_n 0 (dg tX7_mayBe 2 rfl) rfl rfl ?_
      refine WP.getI fX7_126 h0.1 (dg tX7_mayBe 3 rfl) ?_
      refine WP.if_ne (tgt := 115) (dg tX7_mayBe 4 rfl) (by decide) (fun z => ?_) (fun z => ?_)
      · replace h := h.1 z
        refine WP.iconst (v := 0) (dg tX7_mayBe 7 rfl) (by decide) ?_
        exact WP.zret rfl (by decide) (dg tX7_mayBe 8 rfl) ⟨_, rfl, h⟩
      · replace h := h.2 z
        refine WP.iconst (v := 1) (dg tX7_mayBe 5 rfl) (by decide) ?_
        refine WP.goto (tgt := 116) (dg tX7_mayBe 6 rfl) (by decide) ?_
        exact WP.zret rfl (by decide) (dg tX7_mayBe 8 rfl) ⟨_, rfl, h⟩
    · have he : x1 = 115 := Int32.toInt_inj.mp (by rw [hq]; rfl)
      replace h := h.2.2.2.2.1 (he)
      refine WP.tabIn (off := 118) (tgt := 119) (dg tX7_mayBe 1 rfl) (by omega) (by omega) (by rw [hq]; rfl) (by decide) ?_
      refine WP.aload_n 0 (dg tX7_mayBe 11 rfl) rfl rfl ?_
      refine WP.getI fX7_129 h0.1 (dg tX7_mayBe 12 rfl) ?_
      refine WP.if_ne (tgt := 130) (dg tX7_mayBe 13 rfl) (by decide) (fun z => ?_) (fun z => ?_)
      · replace h := h.1 z
        refine WP.iconst (v := 0) (dg tX7_mayBe 16 rfl) (by decide) ?_
        exact WP.zret rfl (by decide) (dg tX7_mayBe 17 rfl) ⟨_, rfl, h⟩
      · replace h := h.2 z
        refine WP.iconst (v := 1) (dg tX7_mayBe 14 rfl) (by decide) ?_
        refine WP.goto (tgt := 131) (dg tX7_mayBe 15 rfl) (by decide) ?_
        exact WP.zret rfl (by decide) (dg tX7_mayBe 17 rfl) ⟨_, rfl, h⟩
    · have he : x1 = 116 := Int32.toInt_inj.mp (by rw [hq]; rfl)
      replace h := h.2.2.2.2.2.2 ⟨fun e => by rw [e] at he; revert he; decide, fun e => by rw [e] at he; revert he; decide, fun e => by rw [e] at he; revert he; decide, fun e => by rw [e] at he; revert he; decide, fun e => by rw [e] at he; revert he; decide, fun e => by rw [e] at he; revert he; decide, fun e => by rw [e] at he; revert he; decide⟩
      refine WP.tabIn (off := 176) (tgt := 177) (dg tX7_mayBe 1 rfl) (by omega) (by omega) (by rw [hq]; rfl) (by decide) ?_
      refine WP.iconst (v := 0) (dg tX7_mayBe 45 rfl) (by decide) ?_
      exact WP.zret rfl (by decide) (dg tX7_mayBe 46 rfl) ⟨_, rfl, h⟩
    · have he : x1 = 117 := Int32.toInt_inj.mp (by rw [hq]; rfl)
      replace h := h.2.2.2.2.2.2 ⟨fun e => by rw [e] at he; revert he; decide, fun e => by rw [e] at he; revert he; decide, fun e => by rw [e] at he; revert he; decide, fun e => by rw [e] at he; revert he; decide, fun e => by rw [e] at he; revert he; decide, fun e => by rw [e] at he; revert he; decide, fun e => by rw [e] at he; revert he; decide⟩
      refine WP.tabIn (off := 176) (tgt := 177) (dg tX7_mayBe 1 rfl) (by omega) (by omega) (by rw [hq]; rfl) (by decide) ?_
      refine WP.iconst (v := 0) (dg tX7_mayBe 45 rfl) (by decide) ?_
      exact WP.zret rfl (by decide) (dg tX7_mayBe 46 rfl) ⟨_, rfl, h⟩
    · have he : x1 = 118 := Int32.toInt_inj.mp (by rw [hq]; rfl)
      replace h := h.2.2.2.2.2.2 ⟨fun e => by rw [e] at he; revert he; decide, fun e => by rw [e] at he; revert he; decide, fun e => by rw [e] at he; revert he; decide, fun e => by rw [e] at he; revert he; decide, fun e => by rw [e] at he; revert he; decide, fun e => by rw [e] at he; revert he; decide, fun e => by rw [e] at he; revert he; decide⟩
      refine WP.tabIn (off := 176) (tgt := 177) (dg tX7_mayBe 1 rfl) (by omega) (by omega) (by rw [hq]; rfl) (by decide) ?_
      refine WP.iconst (v := 0) (dg tX7_mayBe 45 rfl) (by decide) ?_
      exact WP.zret rfl (by decide) (dg tX7_mayBe 46 rfl) ⟨_, rfl, h⟩
    · have he : x1 = 119 := Int32.toInt_inj.mp (by rw [hq]; rfl)
      replace h := h.2.2.2.2.2.1 (he)
      refine WP.tabIn (off := 144) (tgt := 145) (dg tX7_mayBe 1 rfl) (by omega) (by omega) (by rw [hq]; rfl) (by decide) ?_
      refine WP.aload_n 0 (dg tX7_mayBe 25 rfl) rfl rfl ?_
      refine WP.getF fX7_29 h0.1 (dg tX7_mayBe 26 rfl) ?_
      refine WP.iconst (v := 1) (dg tX7_mayBe 27 rfl) (by decide) ?_
      refine WP.ialdc (k := 1) h0.2.2.2.2.2.2.2.1 (by decide) (by decide) (dg tX7_mayBe 28 rfl) ?_
      refine WP.iconst (v := 5) (dg tX7_mayBe 29 rfl) (by decide) ?_
      refine WP.icmp_ge (tgt := 159) (dg tX7_mayBe 30 rfl) (by decide) (fun z => ?_) (fun z => ?_)
      · replace h := h.1 z
        refine WP.iconst (v := 0) (dg tX7_mayBe 33 rfl) (by decide) ?_
        exact WP.zret rfl (by decide) (dg tX7_mayBe 34 rfl) ⟨_, rfl, h⟩
      · replace h := h.2 z
        refine WP.iconst (v := 1) (dg tX7_mayBe 31 rfl) (by decide) ?_
        refine WP.goto (tgt := 160) (dg tX7_mayBe 32 rfl) (by decide) ?_
        exact WP.zret rfl (by decide) (dg tX7_mayBe 34 rfl) ⟨_, rfl, h⟩
theorem sg_X7_isFreeAtFirst_0 {T : Th} {M : Mm} {Q : Int32 → Mm → Prop} {x0 : Nat} {x1 : Int32} {x2 : Int32} (h0 : isX7 T x0)
    (h : WP T mX7_isFreeAtFirst 5 [(0, .ref x0), (1, .int x1), (2, .int x2), (3, .int 1), (4, .int 0)] [] M (qi Q)) :
    WP T mX7_isFreeAtFirst 0 [(0, .ref x0), (1, .int x1), (2, .int x2)] [] M (qi Q) := by
  refine WP.iconst (v := 1) (dg tX7_isFreeAtFirst 0 rfl) (by decide) ?_
  refine WP.istore_n (L2 := [(3, .int 1), (0, .ref x0), (1, .int x1), (2, .int x2)]) (dg tX7_isFreeAtFirst 1 rfl) rfl (by decide) rfl ?_
  refine WP.iconst (v := 0) (dg tX7_isFreeAtFirst 2 rfl) (by decide) ?_
  refine WP.istore (L2 := [(4, .int 0), (3, .int 1), (0, .ref x0), (1, .int x1), (2, .int x2)]) (dg tX7_isFreeAtFirst 3 rfl) (by decide) rfl ?_
  refine WP.sub [2, 3, 4, 1, 0] rfl ?_
  exact h
theorem sg_X7_isFreeAtFirst_5 {T : Th} {M : Mm} {Q : Int32 → Mm → Prop} {x0 : Nat} {x1 : Int32} {x2 : Int32} {x3 : Int32} {x4 : Int32} (h0 : isX7 T x0)
    (h : ((M.1 (x0 + 7) 1) ≤ x4 → (x3 = 0 ∨ x3 = 1) ∧ Q x3 M) ∧ (¬ (M.1 (x0 + 7) 1) ≤ x4 → (x3 = 0 → ∀ v1 : Int32, v1 = x4 + 1 → WP T mX7_isFreeAtFirst 5 [(0, .ref x0), (1, .int x1), (2, .int x2), (3, .int 0), (4, .int v1)] [] M (qi Q)) ∧ (¬ x3 = 0 → vp_in (5 + x4) 10 ∧ ((¬ (M.1 (x0 + 10) (5 + x4).toNatClampNeg) = x1 → ∀ v1 : Int32, v1 = x4 + 1 → WP T mX7_isFreeAtFirst 5 [(0, .ref x0), (1, .int x1), (2, .int x2), (3, .int 1), (4, .int v1)] [] M (qi Q)) ∧ ((M.1 (x0 + 10) (5 + x4).toNatClampNeg) = x1 → vp_in (5 + x4) 10 ∧ (((M.1 (x0 + 13) (5 + x4).toNatClampNeg) = x2 → ∀ v1 : Int32, v1 = x4 + 1 → WP T mX7_isFreeAtFirst 5 [(0, .ref x0), (1, .int x1), (2, .int x2), (3, .int 0), (4, .int v1)] [] M (qi Q)) ∧ (¬ (M.1 (x0 + 13) (5 + x4).toNatClampNeg) = x2 → ∀ v1 : Int32, v1 = x4 + 1 → WP T mX7_isFreeAtFirst 5 [(0, .ref x0), (1, .int x1), (2, .int x2), (3, .int 1), (4, .int v1)] [] M (qi Q)))))))) :
    WP T mX7_isFreeAtFirst 5 [(0, .ref x0), (1, .int x1), (2, .int x2), (3, .int x3), (4, .int x4)] [] M (qi Q) := by
  refine WP.iload 4 (dg tX7_isFreeAtFirst 4 rfl) rfl ?_
  refine WP.aload_n 0 (dg tX7_isFreeAtFirst 5 rfl) rfl rfl ?_
  refine WP.getF fX7_29 h0.1 (dg tX7_isFreeAtFirst 6 rfl) ?_
  refine WP.iconst (v := 1) (dg tX7_isFreeAtFirst 7 rfl) (by decide) ?_
  refine WP.ialdc (k := 1) h0.2.2.2.2.2.2.2.1 (by decide) (by decide) (dg tX7_isFreeAtFirst 8 rfl) ?_
  refine WP.icmp_ge (tgt := 58) (dg tX7_isFreeAtFirst 9 rfl) (by decide) (fun z => ?_) (fun z => ?_)
  · replace h := h.1 z
    refine WP.iload_n 3 (dg tX7_isFreeAtFirst 34 rfl) rfl rfl ?_
    obtain ⟨hb59, h⟩ := h
    exact WP.zret rfl hb59 (dg tX7_isFreeAtFirst 35 rfl) ⟨_, rfl, h⟩
  · replace h := h.2 z
    refine WP.iload_n 3 (dg tX7_isFreeAtFirst 10 rfl) rfl rfl ?_
    refine WP.if_eq (tgt := 50) (dg tX7_isFreeAtFirst 11 rfl) (by decide) (fun z => ?_) (fun z => ?_)
    · replace h := h.1 z
      refine WP.iconst (v := 0) (dg tX7_isFreeAtFirst 30 rfl) (by decide) ?_
      refine WP.istore_n (L2 := [(3, .int 0), (0, .ref x0), (1, .int x1), (2, .int x2), (4, .int x4)]) (dg tX7_isFreeAtFirst 31 rfl) rfl (by decide) rfl ?_
      obtain ⟨v1, e_v1⟩ : ∃ y : Int32, y = x4 + 1 := ⟨_, rfl⟩
      have h := h v1 e_v1
      refine WP.iinc (v := v1) (L2 := [(4, .int v1), (3, .int 0), (0, .ref x0), (1, .int x1), (2, .int x2)]) 4 (dg tX7_isFreeAtFirst 32 rfl) rfl (by rw [e_v1]; rfl) (by decide) rfl ?_
      refine WP.goto (tgt := 5) (dg tX7_isFreeAtFirst 33 rfl) (by decide) ?_
      refine WP.sub [2, 3, 4, 1, 0] rfl ?_
      exact h
    · replace h := h.2 z
      refine WP.aload_n 0 (dg tX7_isFreeAtFirst 12 rfl) rfl rfl ?_
      refine WP.getF fX7_38 h0.1 (dg tX7_isFreeAtFirst 13 rfl) ?_
      refine WP.iconst (v := 5) (dg tX7_isFreeAtFirst 14 rfl) (by decide) ?_
      refine WP.iload 4 (dg tX7_isFreeAtFirst 15 rfl) rfl ?_
      refine WP.iadd (dg tX7_isFreeAtFirst 16 rfl) ?_
      obtain ⟨hb28, h⟩ := h
      refine WP.iald h0.2.2.2.2.2.2.2.2.2.2.1 hb28 (dg tX7_isFreeAtFirst 17 rfl) ?_
      refine WP.iload_n 1 (dg tX7_isFreeAtFirst 18 rfl) rfl rfl ?_
      refine WP.icmp_ne (tgt := 46) (dg tX7_isFreeAtFirst 19 rfl) (by decide) (fun z => ?_) (fun z => ?_)
      · replace h := h.1 z
        refine WP.iconst (v := 1) (dg tX7_isFreeAtFirst 28 rfl) (by decide) ?_
        refine WP.goto (tgt := 51) (dg tX7_isFreeAtFirst 29 rfl) (by decide) ?_
        refine WP.istore_n (L2 := [(3, .int 1), (0, .ref x0), (1, .int x1), (2, .int x2), (4, .int x4)]) (dg tX7_isFreeAtFirst 31 rfl) rfl (by decide) rfl ?_
        obtain ⟨v1, e_v1⟩ : ∃ y : Int32, y = x4 + 1 := ⟨_, rfl⟩
        have h := h v1 e_v1
        refine WP.iinc (v := v1) (L2 := [(4, .int v1), (3, .int 1), (0, .ref x0), (1, .int x1), (2, .int x2)]) 4 (dg tX7_isFreeAtFirst 32 rfl) rfl (by rw [e_v1]; rfl) (by decide) rfl ?_
        refine WP.goto (tgt := 5) (dg tX7_isFreeAtFirst 33 rfl) (by decide) ?_
        refine WP.sub [2, 3, 4, 1, 0] rfl ?_
        exact h
      · replace h := h.2 z
        refine WP.aload_n 0 (dg tX7_isFreeAtFirst 20 rfl) rfl rfl ?_
        refine WP.getF fX7_47 h0.1 (dg tX7_isFreeAtFirst 21 rfl) ?_
        refine WP.iconst (v := 5) (dg tX7_isFreeAtFirst 22 rfl) (by decide) ?_
        refine WP.iload 4 (dg tX7_isFreeAtFirst 23 rfl) rfl ?_
        refine WP.iadd (dg tX7_isFreeAtFirst 24 rfl) ?_
        obtain ⟨hb41, h⟩ := h
        refine WP.iald h0.2.2.2.2.2.2.2.2.2.2.2.2.2.1 hb41 (dg tX7_isFreeAtFirst 25 rfl) ?_
        refine WP.iload_n 2 (dg tX7_isFreeAtFirst 26 rfl) rfl rfl ?_
        refine WP.icmp_eq (tgt := 50) (dg tX7_isFreeAtFirst 27 rfl) (by decide) (fun z => ?_) (fun z => ?_)
        · replace h := h.1 z
          refine WP.iconst (v := 0) (dg tX7_isFreeAtFirst 30 rfl) (by decide) ?_
          refine WP.istore_n (L2 := [(3, .int 0), (0, .ref x0), (1, .int x1), (2, .int x2), (4, .int x4)]) (dg tX7_isFreeAtFirst 31 rfl) rfl (by decide) rfl ?_
          obtain ⟨v1, e_v1⟩ : ∃ y : Int32, y = x4 + 1 := ⟨_, rfl⟩
          have h := h v1 e_v1
          refine WP.iinc (v := v1) (L2 := [(4, .int v1), (3, .int 0), (0, .ref x0), (1, .int x1), (2, .int x2)]) 4 (dg tX7_isFreeAtFirst 32 rfl) rfl (by rw [e_v1]; rfl) (by decide) rfl ?_
          refine WP.goto (tgt := 5) (dg tX7_isFreeAtFirst 33 rfl) (by decide) ?_
          refine WP.sub [2, 3, 4, 1, 0] rfl ?_
          exact h
        · replace h := h.2 z
          refine WP.iconst (v := 1) (dg tX7_isFreeAtFirst 28 rfl) (by decide) ?_
          refine WP.goto (tgt := 51) (dg tX7_isFreeAtFirst 29 rfl) (by decide) ?_
          refine WP.istore_n (L2 := [(3, .int 1), (0, .ref x0), (1, .int x1), (2, .int x2), (4, .int x4)]) (dg tX7_isFreeAtFirst 31 rfl) rfl (by decide) rfl ?_
          obtain ⟨v1, e_v1⟩ : ∃ y : Int32, y = x4 + 1 := ⟨_, rfl⟩
          have h := h v1 e_v1
          refine WP.iinc (v := v1) (L2 := [(4, .int v1), (3, .int 1), (0, .ref x0), (1, .int x1), (2, .int x2)]) 4 (dg tX7_isFreeAtFirst 32 rfl) rfl (by rw [e_v1]; rfl) (by decide) rfl ?_
          refine WP.goto (tgt := 5) (dg tX7_isFreeAtFirst 33 rfl) (by decide) ?_
          refine WP.sub [2, 3, 4, 1, 0] rfl ?_
          exact h
theorem sg_X7_readWagon_0 {T : Th} {M : Mm} {Q : Mm → Prop} {x0 : Nat} (h0 : isX7 T x0)
    (h : ∀ v1 : Int32, v1 = 5 + (M.1 (x0 + 7) 1) → WPi T mX7_number [.ref x0, .int 0, .int 20] M (fun v3 M2 => WPi T mX7_number [.ref x0, .int 0, .int 3] M2 (fun v5 M4 => vp_in v1 10 ∧ (∀ M6 : Mm, M6 = sI M4 (x0 + 11) v1.toNatClampNeg v5 → WPi T mX7_number [.ref x0, .int 0, .int 9] M6 (fun v8 M7 => vp_in v1 10 ∧ (∀ M9 : Mm, M9 = sI M7 (x0 + 12) v1.toNatClampNeg v8 → (¬ (M9.1 x0 20) = 1 → WP T mX7_readWagon 81 [(0, .ref x0), (1, .int v1), (2, .int v3)] [.int 0, .ref x0, .int v1, .ref (x0 + 13)] M9 (qv Q)) ∧ ((M9.1 x0 20) = 1 → (3 ≤ (M9.1 x0 21) → WP T mX7_readWagon 81 [(0, .ref x0), (1, .int v1), (2, .int v3)] [.int 0, .ref x0, .int v1, .ref (x0 + 13)] M9 (qv Q)) ∧ (¬ 3 ≤ (M9.1 x0 21) → WPi T mX7_isFreeAtFirst [.ref x0, .int v3, .int (M9.1 x0 21)] M9 (fun v11 M10 => (v11 = 0 → WP T mX7_readWagon 81 [(0, .ref x0), (1, .int v1), (2, .int v3)] [.int 0, .ref x0, .int v1, .ref (x0 + 13)] M10 (qv Q)) ∧ (¬ v11 = 0 → WP T mX7_readWagon 81 [(0, .ref x0), (1, .int v1), (2, .int v3)] [.int 1, .ref x0, .int v1, .ref (x0 + 13)] M10 (qv Q))))))))))) :
    WP T mX7_readWagon 0 [(0, .ref x0)] [] M (qv Q) := by
  refine WP.iconst (v := 5) (dg tX7_readWagon 0 rfl) (by decide) ?_
  refine WP.aload_n 0 (dg tX7_readWagon 1 rfl) rfl rfl ?_
  refine WP.getF fX7_29 h0.1 (dg tX7_readWagon 2 rfl) ?_
  refine WP.iconst (v := 1) (dg tX7_readWagon 3 rfl) (by decide) ?_
  refine WP.ialdc (k := 1) h0.2.2.2.2.2.2.2.1 (by decide) (by decide) (dg tX7_readWagon 4 rfl) ?_
  refine WP.iadd (dg tX7_readWagon 5 rfl) ?_
  refine WP.topi (fun v1 e_v1 => ?_)
  have h := h v1 e_v1
  refine WP.istore_n (L2 := [(1, .int v1), (0, .ref x0)]) (dg tX7_readWagon 6 rfl) rfl (by decide) rfl ?_
  refine WP.aload_n 1 (dg tX7_readWagon 7 rfl) rfl rfl ?_
  refine WP.iconst (v := 0) (dg tX7_readWagon 8 rfl) (by decide) ?_
  refine WP.bipush (v := 20) (dg tX7_readWagon 9 rfl) (by decide) ?_
  refine WP.callVi (As := [.int 0, .int 20]) (st := []) vX7_122 h0.1 rfl rfl ⟨Nat.le_of_ble_eq_true rfl, Nat.le_of_ble_eq_true rfl⟩ (Nat.le_of_ble_eq_true rfl) rfl (dg tX7_readWagon 10 rfl) h (fun v3 M2 h => ?_)
  refine WP.istore_n (L2 := [(2, .int v3), (1, .int v1), (0, .ref x0)]) (dg tX7_readWagon 11 rfl) rfl (by decide) rfl ?_
  refine WP.aload_n 2 (dg tX7_readWagon 12 rfl) rfl rfl ?_
  refine WP.getF fX7_41 h0.1 (dg tX7_readWagon 13 rfl) ?_
  refine WP.iload_n 1 (dg tX7_readWagon 14 rfl) rfl rfl ?_
  refine WP.aload_n 2 (dg tX7_readWagon 15 rfl) rfl rfl ?_
  refine WP.iconst (v := 0) (dg tX7_readWagon 16 rfl) (by decide) ?_
  refine WP.iconst (v := 3) (dg tX7_readWagon 17 rfl) (by decide) ?_
  refine WP.callVi (As := [.int 0, .int 3]) (st := [.int v1, .ref (x0 + 11)]) vX7_122 h0.1 rfl rfl ⟨Nat.le_of_ble_eq_true rfl, Nat.le_of_ble_eq_true rfl⟩ (Nat.le_of_ble_eq_true rfl) rfl (dg tX7_readWagon 18 rfl) h (fun v5 M4 h => ?_)
  obtain ⟨hb28, h⟩ := h
  refine WP.iast h0.2.2.2.2.2.2.2.2.2.2.2.1 hb28 (dg tX7_readWagon 19 rfl) (fun M6 e_M6 => ?_)
  have h := h M6 e_M6
  refine WP.aload_n 2 (dg tX7_readWagon 20 rfl) rfl rfl ?_
  refine WP.getF fX7_44 h0.1 (dg tX7_readWagon 21 rfl) ?_
  refine WP.iload_n 1 (dg tX7_readWagon 22 rfl) rfl rfl ?_
  refine WP.aload_n 2 (dg tX7_readWagon 23 rfl) rfl rfl ?_
  refine WP.iconst (v := 0) (dg tX7_readWagon 24 rfl) (by decide) ?_
  refine WP.bipush (v := 9) (dg tX7_readWagon 25 rfl) (by decide) ?_
  refine WP.callVi (As := [.int 0, .int 9]) (st := [.int v1, .ref (x0 + 12)]) vX7_122 h0.1 rfl rfl ⟨Nat.le_of_ble_eq_true rfl, Nat.le_of_ble_eq_true rfl⟩ (Nat.le_of_ble_eq_true rfl) rfl (dg tX7_readWagon 26 rfl) h (fun v8 M7 h => ?_)
  obtain ⟨hb41, h⟩ := h
  refine WP.iast h0.2.2.2.2.2.2.2.2.2.2.2.2.1 hb41 (dg tX7_readWagon 27 rfl) (fun M9 e_M9 => ?_)
  have h := h M9 e_M9
  refine WP.aload_n 2 (dg tX7_readWagon 28 rfl) rfl rfl ?_
  refine WP.getF fX7_47 h0.1 (dg tX7_readWagon 29 rfl) ?_
  refine WP.iload_n 1 (dg tX7_readWagon 30 rfl) rfl rfl ?_
  refine WP.aload_n 2 (dg tX7_readWagon 31 rfl) rfl rfl ?_
  refine WP.aload_n 2 (dg tX7_readWagon 32 rfl) rfl rfl ?_
  refine WP.getI fX7_109 h0.1 (dg tX7_readWagon 33 rfl) ?_
  refine WP.iconst (v := 1) (dg tX7_readWagon 34 rfl) (by decide) ?_
  refine WP.icmp_ne (tgt := 80) (dg tX7_readWagon 35 rfl) (by decide) (fun z => ?_) (fun z => ?_)
  · replace h := h.1 z
    refine WP.iconst (v := 0) (dg tX7_readWagon 48 rfl) (by decide) ?_
    refine WP.sub [2, 1, 0] rfl ?_
    exact h
  · replace h := h.2 z
    refine WP.aload_n 2 (dg tX7_readWagon 36 rfl) rfl rfl ?_
    refine WP.getI fX7_106 h0.1 (dg tX7_readWagon 37 rfl) ?_
    refine WP.iconst (v := 3) (dg tX7_readWagon 38 rfl) (by decide) ?_
    refine WP.icmp_ge (tgt := 80) (dg tX7_readWagon 39 rfl) (by decide) (fun z => ?_) (fun z => ?_)
    · replace h := h.1 z
      refine WP.iconst (v := 0) (dg tX7_readWagon 48 rfl) (by decide) ?_
      refine WP.sub [2, 1, 0] rfl ?_
      exact h
    · replace h := h.2 z
      refine WP.aload_n 2 (dg tX7_readWagon 40 rfl) rfl rfl ?_
      refine WP.iload_n 0 (dg tX7_readWagon 41 rfl) rfl rfl ?_
      refine WP.aload_n 2 (dg tX7_readWagon 42 rfl) rfl rfl ?_
      refine WP.getI fX7_106 h0.1 (dg tX7_readWagon 43 rfl) ?_
      refine WP.callVi (As := [.int v3, .int (M9.1 x0 21)]) (st := [.ref x0, .int v1, .ref (x0 + 13)]) vX7_136 h0.1 rfl rfl ⟨Nat.le_of_ble_eq_true rfl, Nat.le_of_ble_eq_true rfl⟩ (Nat.le_of_ble_eq_true rfl) rfl (dg tX7_readWagon 44 rfl) h (fun v11 M10 h => ?_)
      refine WP.if_eq (tgt := 80) (dg tX7_readWagon 45 rfl) (by decide) (fun z => ?_) (fun z => ?_)
      · replace h := h.1 z
        refine WP.iconst (v := 0) (dg tX7_readWagon 48 rfl) (by decide) ?_
        refine WP.sub [2, 1, 0] rfl ?_
        exact h
      · replace h := h.2 z
        refine WP.iconst (v := 1) (dg tX7_readWagon 46 rfl) (by decide) ?_
        refine WP.goto (tgt := 81) (dg tX7_readWagon 47 rfl) (by decide) ?_
        refine WP.sub [2, 1, 0] rfl ?_
        exact h
theorem sg_X7_readWagon_81 {T : Th} {M : Mm} {Q : Mm → Prop} {x0 : Nat} {x1 : Int32} {x2 : Int32} {s0 : Int32} {s1 : Nat} {s2 : Int32} {s3 : Nat} (h0 : isX7 T x0) (hs1 : isX7 T s1) (hs3 : Ob T s3 (1, 10))
    (h : WPi T mX7_due [.ref s1, .int s0] M (fun v2 M1 => vp_in s2 10 ∧ (∀ M3 : Mm, M3 = sI M1 s3 s2.toNatClampNeg v2 → vp_in x1 10 ∧ (∀ M4 : Mm, M4 = sI M3 (x0 + 10) x1.toNatClampNeg x2 → ∀ M5 : Mm, M5 = sI M4 (x0 + 7) 1 ((M4.1 (x0 + 7) 1) + 1) → Q M5)))) :
    WP T mX7_readWagon 81 [(0, .ref x0), (1, .int x1), (2, .int x2)] [.int s0, .ref s1, .int s2, .ref s3] M (qv Q) := by
  refine WP.callVi (As := [.int s0]) (st := [.int s2, .ref s3]) vX7_118 hs1.1 rfl rfl ⟨Nat.le_of_ble_eq_true rfl, Nat.le_of_ble_eq_true rfl⟩ (Nat.le_of_ble_eq_true rfl) rfl (dg tX7_readWagon 49 rfl) h (fun v2 M1 h => ?_)
  obtain ⟨hb84, h⟩ := h
  refine WP.iast hs3 hb84 (dg tX7_readWagon 50 rfl) (fun M3 e_M3 => ?_)
  have h := h M3 e_M3
  refine WP.aload_n 0 (dg tX7_readWagon 51 rfl) rfl rfl ?_
  refine WP.getF fX7_38 h0.1 (dg tX7_readWagon 52 rfl) ?_
  refine WP.iload_n 1 (dg tX7_readWagon 53 rfl) rfl rfl ?_
  refine WP.iload_n 2 (dg tX7_readWagon 54 rfl) rfl rfl ?_
  obtain ⟨hb91, h⟩ := h
  refine WP.iast h0.2.2.2.2.2.2.2.2.2.2.1 hb91 (dg tX7_readWagon 55 rfl) (fun M4 e_M4 => ?_)
  have h := h M4 e_M4
  refine WP.aload_n 0 (dg tX7_readWagon 56 rfl) rfl rfl ?_
  refine WP.getF fX7_29 h0.1 (dg tX7_readWagon 57 rfl) ?_
  refine WP.iconst (v := 1) (dg tX7_readWagon 58 rfl) (by decide) ?_
  refine WP.dup2 (dg tX7_readWagon 59 rfl) rfl rfl ?_
  refine WP.ialdc (k := 1) h0.2.2.2.2.2.2.2.1 (by decide) (by decide) (dg tX7_readWagon 60 rfl) ?_
  refine WP.iconst (v := 1) (dg tX7_readWagon 61 rfl) (by decide) ?_
  refine WP.iadd (dg tX7_readWagon 62 rfl) ?_
  refine WP.iastc (k := 1) h0.2.2.2.2.2.2.2.1 (by decide) (by decide) (dg tX7_readWagon 63 rfl) (fun M5 e_M5 => ?_)
  have h := h M5 e_M5
  exact WP.vret rfl (dg tX7_readWagon 64 rfl) ⟨rfl, h⟩
theorem sg_X7_readRow_0 {T : Th} {M : Mm} {Q : Mm → Prop} {x0 : Nat} {x1 : Int32} (h0 : isX7 T x0)
    (h : (¬ x1 = 114 → (¬ x1 = 99 → (¬ x1 = 112 → (¬ x1 = 115 → (¬ x1 = 98 → (¬ x1 = 119 → ∀ v1 : Int32, v1 = 4 + (M.1 (x0 + 8) 1) → WPi T mX7_number [.ref x0, .int 0, .int ((M.1 (x0 + 7) 1) - 1)] M (fun v3 M2 => vp_in v1 8 ∧ (∀ M4 : Mm, M4 = sI M2 (x0 + 14) v1.toNatClampNeg v3 → (¬ (M4.1 x0 20) = 1 → WP T mX7_readRow 250 [(0, .ref x0)] [.ref x0, .int v1, .ref (x0 + 15)] M4 (qv Q)) ∧ ((M4.1 x0 20) = 1 → ((M4.1 (x0 + 7) 1) ≤ (M4.1 x0 21) → WP T mX7_readRow 250 [(0, .ref x0)] [.ref x0, .int v1, .ref (x0 + 15)] M4 (qv Q)) ∧ (¬ (M4.1 (x0 + 7) 1) ≤ (M4.1 x0 21) → vp_in v1 8 ∧ (((M4.1 x0 21) = (M4.1 (x0 + 14) v1.toNatClampNeg) → WP T mX7_readRow 250 [(0, .ref x0)] [.ref x0, .int v1, .ref (x0 + 15)] M4 (qv Q)) ∧ (¬ (M4.1 x0 21) = (M4.1 (x0 + 14) v1.toNatClampNeg) → WPi T mX7_due [.ref x0, .int 1] M4 (fun v6 M5 => vp_in v1 8 ∧ (∀ M7 : Mm, M7 = sI M5 (x0 + 15) v1.toNatClampNeg v6 → ∀ M8 : Mm, M8 = sI M7 (x0 + 8) 1 ((M7.1 (x0 + 8) 1) + 1) → Q M8))))))))) ∧ (x1 = 119 → WPv T mX7_readWagon [.ref x0] M (fun M1 => Q M1))) ∧ (x1 = 98 → WPi T mX7_placeTold [.ref x0] M (fun v2 M1 => ∀ M3 : Mm, M3 = sI M1 (x0 + 5) 1 v2 → ∀ M4 : Mm, M4 = sI M3 x0 25 1 → Q M4))) ∧ (x1 = 115 → WPi T mX7_number [.ref x0, .int 1, .int 9] M (fun v2 M1 => ∀ M3 : Mm, M3 = sI M1 (x0 + 3) 1 v2 → WPi T mX7_number [.ref x0, .int 1, .int 20] M3 (fun v5 M4 => ∀ M6 : Mm, M6 = sI M4 (x0 + 4) 1 v5 → ∀ M7 : Mm, M7 = sI M6 x0 24 1 → Q M7)))) ∧ (x1 = 112 → WPi T mX7_placeTold [.ref x0] M (fun v2 M1 => (¬ (M1.1 x0 22) = (-9) → ∀ M3 : Mm, M3 = sI M1 (x0 + 6) 1 ((M1.1 (x0 + 6) 1) ||| 0) → Q M3) ∧ ((M1.1 x0 22) = (-9) → ∀ M3 : Mm, M3 = sI M1 (x0 + 6) 1 ((M1.1 (x0 + 6) 1) ||| (1 <<< (v2 &&& 31))) → Q M3)))) ∧ (x1 = 99 → WPi T mX7_placeTold [.ref x0] M (fun v2 M1 => WPi T mX7_number [.ref x0, .int 1, .int 4] M1 (fun v4 M3 => (¬ (M3.1 x0 22) = (-9) → Q M3) ∧ ((M3.1 x0 22) = (-9) → vp_in (12 + v2) 24 ∧ (∀ M5 : Mm, M5 = sI M3 (x0 + 9) (12 + v2).toNatClampNeg v4 → Q M5)))))) ∧ (x1 = 114 → WPi T mX7_number [.ref x0, .int 4, .int 12] M (fun v2 M1 => ∀ M3 : Mm, M3 = sI M1 (x0 + 2) 1 v2 → Q M3))) :
    WP T mX7_readRow 0 [(0, .ref x0), (1, .int x1)] [] M (qv Q) := by
  refine WP.iload_n 1 (dg tX7_readRow 0 rfl) rfl rfl ?_
  refine WP.bipush (v := 114) (dg tX7_readRow 1 rfl) (by decide) ?_
  refine WP.icmp_ne (tgt := 22) (dg tX7_readRow 2 rfl) (by decide) (fun z => ?_) (fun z => ?_)
  · replace h := h.1 z
    refine WP.iload_n 1 (dg tX7_readRow 12 rfl) rfl rfl ?_
    refine WP.bipush (v := 99) (dg tX7_readRow 13 rfl) (by decide) ?_
    refine WP.icmp_ne (tgt := 62) (dg tX7_readRow 14 rfl) (by decide) (fun z => ?_) (fun z => ?_)
    · replace h := h.1 z
      refine WP.iload_n 1 (dg tX7_readRow 35 rfl) rfl rfl ?_
      refine WP.bipush (v := 112) (dg tX7_readRow 36 rfl) (by decide) ?_
      refine WP.icmp_ne (tgt := 101) (dg tX7_readRow 37 rfl) (by decide) (fun z => ?_) (fun z => ?_)
      · replace h := h.1 z
        refine WP.iload_n 1 (dg tX7_readRow 58 rfl) rfl rfl ?_
        refine WP.bipush (v := 115) (dg tX7_readRow 59 rfl) (by decide) ?_
        refine WP.icmp_ne (tgt := 141) (dg tX7_readRow 60 rfl) (by decide) (fun z => ?_) (fun z => ?_)
        · replace h := h.1 z
          refine WP.iload_n 1 (dg tX7_readRow 81 rfl) rfl rfl ?_
          refine WP.bipush (v := 98) (dg tX7_readRow 82 rfl) (by decide) ?_
          refine WP.icmp_ne (tgt := 165) (dg tX7_readRow 83 rfl) (by decide) (fun z => ?_) (fun z => ?_)
          · replace h := h.1 z
            refine WP.iload_n 1 (dg tX7_readRow 94 rfl) rfl rfl ?_
            refine WP.bipush (v := 119) (dg tX7_readRow 95 rfl) (by decide) ?_
            refine WP.icmp_ne (tgt := 178) (dg tX7_readRow 96 rfl) (by decide) (fun z => ?_) (fun z => ?_)
            · replace h := h.1 z
              refine WP.iconst (v := 4) (dg tX7_readRow 100 rfl) (by decide) ?_
              refine WP.aload_n 0 (dg tX7_readRow 101 rfl) rfl rfl ?_
              refine WP.getF fX7_32 h0.1 (dg tX7_readRow 102 rfl) ?_
              refine WP.iconst (v := 1) (dg tX7_readRow 103 rfl) (by decide) ?_
              refine WP.ialdc (k := 1) h0.2.2.2.2.2.2.2.2.1 (by decide) (by decide) (dg tX7_readRow 104 rfl) ?_
              refine WP.iadd (dg tX7_readRow 105 rfl) ?_
              refine WP.topi (fun v1 e_v1 => ?_)
              have h := h v1 e_v1
              refine WP.istore_n (L2 := [(2, .int v1), (0, .ref x0), (1, .int x1)]) (dg tX7_readRow 106 rfl) rfl (by decide) rfl ?_
              refine WP.aload_n 1 (dg tX7_readRow 107 rfl) rfl rfl ?_
              refine WP.getF fX7_50 h0.1 (dg tX7_readRow 108 rfl) ?_
              refine WP.iload_n 0 (dg tX7_readRow 109 rfl) rfl rfl ?_
              refine WP.aload_n 1 (dg tX7_readRow 110 rfl) rfl rfl ?_
              refine WP.iconst (v := 0) (dg tX7_readRow 111 rfl) (by decide) ?_
              refine WP.aload_n 1 (dg tX7_readRow 112 rfl) rfl rfl ?_
              refine WP.getF fX7_29 h0.1 (dg tX7_readRow 113 rfl) ?_
              refine WP.iconst (v := 1) (dg tX7_readRow 114 rfl) (by decide) ?_
              refine WP.ialdc (k := 1) h0.2.2.2.2.2.2.2.1 (by decide) (by decide) (dg tX7_readRow 115 rfl) ?_
              refine WP.iconst (v := 1) (dg tX7_readRow 116 rfl) (by decide) ?_
              refine WP.isub (dg tX7_readRow 117 rfl) ?_
              refine WP.callVi (As := [.int 0, .int ((M.1 (x0 + 7) 1) - 1)]) (st := [.int v1, .ref (x0 + 14)]) vX7_122 h0.1 rfl rfl ⟨Nat.le_of_ble_eq_true rfl, Nat.le_of_ble_eq_true rfl⟩ (Nat.le_of_ble_eq_true rfl) rfl (dg tX7_readRow 118 rfl) h (fun v3 M2 h => ?_)
              obtain ⟨hb205, h⟩ := h
              refine WP.iast h0.2.2.2.2.2.2.2.2.2.2.2.2.2.2.1 hb205 (dg tX7_readRow 119 rfl) (fun M4 e_M4 => ?_)
              have h := h M4 e_M4
              refine WP.aload_n 1 (dg tX7_readRow 120 rfl) rfl rfl ?_
              refine WP.getF fX7_53 h0.1 (dg tX7_readRow 121 rfl) ?_
              refine WP.iload_n 0 (dg tX7_readRow 122 rfl) rfl rfl ?_
              refine WP.aload_n 1 (dg tX7_readRow 123 rfl) rfl rfl ?_
              refine WP.aload_n 1 (dg tX7_readRow 124 rfl) rfl rfl ?_
              refine WP.getI fX7_109 h0.1 (dg tX7_readRow 125 rfl) ?_
              refine WP.iconst (v := 1) (dg tX7_readRow 126 rfl) (by decide) ?_
              refine WP.icmp_ne (tgt := 250) (dg tX7_readRow 127 rfl) (by decide) (fun z => ?_) (fun z => ?_)
              · replace h := h.1 z
                refine WP.sub [1] rfl ?_
                exact h
              · replace h := h.2 z
                refine WP.aload_n 1 (dg tX7_readRow 128 rfl) rfl rfl ?_
                refine WP.getI fX7_106 h0.1 (dg tX7_readRow 129 rfl) ?_
                refine WP.aload_n 1 (dg tX7_readRow 130 rfl) rfl rfl ?_
                refine WP.getF fX7_29 h0.1 (dg tX7_readRow 131 rfl) ?_
                refine WP.iconst (v := 1) (dg tX7_readRow 132 rfl) (by decide) ?_
                refine WP.ialdc (k := 1) h0.2.2.2.2.2.2.2.1 (by decide) (by decide) (dg tX7_readRow 133 rfl) ?_
                refine WP.icmp_ge (tgt := 250) (dg tX7_readRow 134 rfl) (by decide) (fun z => ?_) (fun z => ?_)
                · replace h := h.1 z
                  refine WP.sub [1] rfl ?_
                  exact h
                · replace h := h.2 z
                  refine WP.aload_n 1 (dg tX7_readRow 135 rfl) rfl rfl ?_
                  refine WP.getI fX7_106 h0.1 (dg tX7_readRow 136 rfl) ?_
                  refine WP.aload_n 1 (dg tX7_readRow 137 rfl) rfl rfl ?_
                  refine WP.getF fX7_50 h0.1 (dg tX7_readRow 138 rfl) ?_
                  refine WP.iload_n 0 (dg tX7_readRow 139 rfl) rfl rfl ?_
                  obtain ⟨hb242, h⟩ := h
                  refine WP.iald h0.2.2.2.2.2.2.2.2.2.2.2.2.2.2.1 hb242 (dg tX7_readRow 140 rfl) ?_
                  refine WP.icmp_eq (tgt := 250) (dg tX7_readRow 141 rfl) (by decide) (fun z => ?_) (fun z => ?_)
                  · replace h := h.1 z
                    refine WP.sub [1] rfl ?_
                    exact h
                  · replace h := h.2 z
                    refine WP.iconst (v := 1) (dg tX7_readRow 142 rfl) (by decide) ?_
                    refine WP.goto (tgt := 251) (dg tX7_readRow 143 rfl) (by decide) ?_
                    refine WP.callVi (As := [.int 1]) (st := [.int v1, .ref (x0 + 15)]) vX7_118 h0.1 rfl rfl ⟨Nat.le_of_ble_eq_true rfl, Nat.le_of_ble_eq_true rfl⟩ (Nat.le_of_ble_eq_true rfl) rfl (dg tX7_readRow 145 rfl) h (fun v6 M5 h => ?_)
                    obtain ⟨hb254, h⟩ := h
                    refine WP.iast h0.2.2.2.2.2.2.2.2.2.2.2.2.2.2.2.1 hb254 (dg tX7_readRow 146 rfl) (fun M7 e_M7 => ?_)
                    have h := h M7 e_M7
                    refine WP.aload_n 1 (dg tX7_readRow 147 rfl) rfl rfl ?_
                    refine WP.getF fX7_32 h0.1 (dg tX7_readRow 148 rfl) ?_
                    refine WP.iconst (v := 1) (dg tX7_readRow 149 rfl) (by decide) ?_
                    refine WP.dup2 (dg tX7_readRow 150 rfl) rfl rfl ?_
                    refine WP.ialdc (k := 1) h0.2.2.2.2.2.2.2.2.1 (by decide) (by decide) (dg tX7_readRow 151 rfl) ?_
                    refine WP.iconst (v := 1) (dg tX7_readRow 152 rfl) (by decide) ?_
                    refine WP.iadd (dg tX7_readRow 153 rfl) ?_
                    refine WP.iastc (k := 1) h0.2.2.2.2.2.2.2.2.1 (by decide) (by decide) (dg tX7_readRow 154 rfl) (fun M8 e_M8 => ?_)
                    have h := h M8 e_M8
                    exact WP.vret rfl (dg tX7_readRow 155 rfl) ⟨rfl, h⟩
            · replace h := h.2 z
              refine WP.aload_n 0 (dg tX7_readRow 97 rfl) rfl rfl ?_
              refine WP.callVv (As := []) (st := []) vX7_143 h0.1 rfl rfl ⟨Nat.le_of_ble_eq_true rfl, Nat.le_of_ble_eq_true rfl⟩ (Nat.le_of_ble_eq_true rfl) rfl (dg tX7_readRow 98 rfl) h (fun M1 h => ?_)
              refine WP.goto (tgt := 265) (dg tX7_readRow 99 rfl) (by decide) ?_
              exact WP.vret rfl (dg tX7_readRow 155 rfl) ⟨rfl, h⟩
          · replace h := h.2 z
            refine WP.aload_n 0 (dg tX7_readRow 84 rfl) rfl rfl ?_
            refine WP.getF fX7_23 h0.1 (dg tX7_readRow 85 rfl) ?_
            refine WP.iconst (v := 1) (dg tX7_readRow 86 rfl) (by decide) ?_
            refine WP.aload_n 0 (dg tX7_readRow 87 rfl) rfl rfl ?_
            refine WP.callVi (As := []) (st := [.int 1, .ref (x0 + 5)]) vX7_140 h0.1 rfl rfl ⟨Nat.le_of_ble_eq_true rfl, Nat.le_of_ble_eq_true rfl⟩ (Nat.le_of_ble_eq_true rfl) rfl (dg tX7_readRow 88 rfl) h (fun v2 M1 h => ?_)
            refine WP.iastc (k := 1) h0.2.2.2.2.2.1 (by decide) (by decide) (dg tX7_readRow 89 rfl) (fun M3 e_M3 => ?_)
            have h := h M3 e_M3
            refine WP.aload_n 0 (dg tX7_readRow 90 rfl) rfl rfl ?_
            refine WP.iconst (v := 1) (dg tX7_readRow 91 rfl) (by decide) ?_
            refine WP.putZ fX7_133 h0.1 (by decide) (dg tX7_readRow 92 rfl) (fun M4 e_M4 => ?_)
            have h := h M4 e_M4
            refine WP.goto (tgt := 265) (dg tX7_readRow 93 rfl) (by decide) ?_
            exact WP.vret rfl (dg tX7_readRow 155 rfl) ⟨rfl, h⟩
        · replace h := h.2 z
          refine WP.aload_n 0 (dg tX7_readRow 61 rfl) rfl rfl ?_
          refine WP.getF fX7_17 h0.1 (dg tX7_readRow 62 rfl) ?_
          refine WP.iconst (v := 1) (dg tX7_readRow 63 rfl) (by decide) ?_
          refine WP.aload_n 0 (dg tX7_readRow 64 rfl) rfl rfl ?_
          refine WP.iconst (v := 1) (dg tX7_readRow 65 rfl) (by decide) ?_
          refine WP.bipush (v := 9) (dg tX7_readRow 66 rfl) (by decide) ?_
          refine WP.callVi (As := [.int 1, .int 9]) (st := [.int 1, .ref (x0 + 3)]) vX7_122 h0.1 rfl rfl ⟨Nat.le_of_ble_eq_true rfl, Nat.le_of_ble_eq_true rfl⟩ (Nat.le_of_ble_eq_true rfl) rfl (dg tX7_readRow 67 rfl) h (fun v2 M1 h => ?_)
          refine WP.iastc (k := 1) h0.2.2.2.1 (by decide) (by decide) (dg tX7_readRow 68 rfl) (fun M3 e_M3 => ?_)
          have h := h M3 e_M3
          refine WP.aload_n 0 (dg tX7_readRow 69 rfl) rfl rfl ?_
          refine WP.getF fX7_20 h0.1 (dg tX7_readRow 70 rfl) ?_
          refine WP.iconst (v := 1) (dg tX7_readRow 71 rfl) (by decide) ?_
          refine WP.aload_n 0 (dg tX7_readRow 72 rfl) rfl rfl ?_
          refine WP.iconst (v := 1) (dg tX7_readRow 73 rfl) (by decide) ?_
          refine WP.bipush (v := 20) (dg tX7_readRow 74 rfl) (by decide) ?_
          refine WP.callVi (As := [.int 1, .int 20]) (st := [.int 1, .ref (x0 + 4)]) vX7_122 h0.1 rfl rfl ⟨Nat.le_of_ble_eq_true rfl, Nat.le_of_ble_eq_true rfl⟩ (Nat.le_of_ble_eq_true rfl) rfl (dg tX7_readRow 75 rfl) h (fun v5 M4 h => ?_)
          refine WP.iastc (k := 1) h0.2.2.2.2.1 (by decide) (by decide) (dg tX7_readRow 76 rfl) (fun M6 e_M6 => ?_)
          have h := h M6 e_M6
          refine WP.aload_n 0 (dg tX7_readRow 77 rfl) rfl rfl ?_
          refine WP.iconst (v := 1) (dg tX7_readRow 78 rfl) (by decide) ?_
          refine WP.putZ fX7_129 h0.1 (by decide) (dg tX7_readRow 79 rfl) (fun M7 e_M7 => ?_)
          have h := h M7 e_M7
          refine WP.goto (tgt := 265) (dg tX7_readRow 80 rfl) (by decide) ?_
          exact WP.vret rfl (dg tX7_readRow 155 rfl) ⟨rfl, h⟩
      · replace h := h.2 z
        refine WP.aload_n 0 (dg tX7_readRow 38 rfl) rfl rfl ?_
        refine WP.callVi (As := []) (st := []) vX7_140 h0.1 rfl rfl ⟨Nat.le_of_ble_eq_true rfl, Nat.le_of_ble_eq_true rfl⟩ (Nat.le_of_ble_eq_true rfl) rfl (dg tX7_readRow 39 rfl) h (fun v2 M1 h => ?_)
        refine WP.istore_n (L2 := [(2, .int v2), (0, .ref x0), (1, .int x1)]) (dg tX7_readRow 40 rfl) rfl (by decide) rfl ?_
        refine WP.aload_n 1 (dg tX7_readRow 41 rfl) rfl rfl ?_
        refine WP.getF fX7_26 h0.1 (dg tX7_readRow 42 rfl) ?_
        refine WP.iconst (v := 1) (dg tX7_readRow 43 rfl) (by decide) ?_
        refine WP.dup2 (dg tX7_readRow 44 rfl) rfl rfl ?_
        refine WP.ialdc (k := 1) h0.2.2.2.2.2.2.1 (by decide) (by decide) (dg tX7_readRow 45 rfl) ?_
        refine WP.aload_n 1 (dg tX7_readRow 46 rfl) rfl rfl ?_
        refine WP.getI fX7_112 h0.1 (dg tX7_readRow 47 rfl) ?_
        refine WP.bipush (v := (-9)) (dg tX7_readRow 48 rfl) (by decide) ?_
        refine WP.icmp_ne (tgt := 95) (dg tX7_readRow 49 rfl) (by decide) (fun z => ?_) (fun z => ?_)
        · replace h := h.1 z
          refine WP.iconst (v := 0) (dg tX7_readRow 54 rfl) (by decide) ?_
          refine WP.ior (dg tX7_readRow 55 rfl) ?_
          refine WP.iastc (k := 1) h0.2.2.2.2.2.2.1 (by decide) (by decide) (dg tX7_readRow 56 rfl) (fun M3 e_M3 => ?_)
          have h := h M3 e_M3
          refine WP.goto (tgt := 265) (dg tX7_readRow 57 rfl) (by decide) ?_
          exact WP.vret rfl (dg tX7_readRow 155 rfl) ⟨rfl, h⟩
        · replace h := h.2 z
          refine WP.iconst (v := 1) (dg tX7_readRow 50 rfl) (by decide) ?_
          refine WP.iload_n 0 (dg tX7_readRow 51 rfl) rfl rfl ?_
          refine WP.ishl (dg tX7_readRow 52 rfl) ?_
          refine WP.goto (tgt := 96) (dg tX7_readRow 53 rfl) (by decide) ?_
          refine WP.ior (dg tX7_readRow 55 rfl) ?_
          refine WP.iastc (k := 1) h0.2.2.2.2.2.2.1 (by decide) (by decide) (dg tX7_readRow 56 rfl) (fun M3 e_M3 => ?_)
          have h := h M3 e_M3
          refine WP.goto (tgt := 265) (dg tX7_readRow 57 rfl) (by decide) ?_
          exact WP.vret rfl (dg tX7_readRow 155 rfl) ⟨rfl, h⟩
    · replace h := h.2 z
      refine WP.aload_n 0 (dg tX7_readRow 15 rfl) rfl rfl ?_
      refine WP.callVi (As := []) (st := []) vX7_140 h0.1 rfl rfl ⟨Nat.le_of_ble_eq_true rfl, Nat.le_of_ble_eq_true rfl⟩ (Nat.le_of_ble_eq_true rfl) rfl (dg tX7_readRow 16 rfl) h (fun v2 M1 h => ?_)
      refine WP.istore_n (L2 := [(2, .int v2), (0, .ref x0), (1, .int x1)]) (dg tX7_readRow 17 rfl) rfl (by decide) rfl ?_
      refine WP.aload_n 1 (dg tX7_readRow 18 rfl) rfl rfl ?_
      refine WP.iconst (v := 1) (dg tX7_readRow 19 rfl) (by decide) ?_
      refine WP.iconst (v := 4) (dg tX7_readRow 20 rfl) (by decide) ?_
      refine WP.callVi (As := [.int 1, .int 4]) (st := []) vX7_122 h0.1 rfl rfl ⟨Nat.le_of_ble_eq_true rfl, Nat.le_of_ble_eq_true rfl⟩ (Nat.le_of_ble_eq_true rfl) rfl (dg tX7_readRow 21 rfl) h (fun v4 M3 h => ?_)
      refine WP.istore_n (L2 := [(3, .int v4), (2, .int v2), (0, .ref x0), (1, .int x1)]) (dg tX7_readRow 22 rfl) rfl (by decide) rfl ?_
      refine WP.aload_n 2 (dg tX7_readRow 23 rfl) rfl rfl ?_
      refine WP.getI fX7_112 h0.1 (dg tX7_readRow 24 rfl) ?_
      refine WP.bipush (v := (-9)) (dg tX7_readRow 25 rfl) (by decide) ?_
      refine WP.icmp_ne (tgt := 59) (dg tX7_readRow 26 rfl) (by decide) (fun z => ?_) (fun z => ?_)
      · replace h := h.1 z
        refine WP.goto (tgt := 265) (dg tX7_readRow 34 rfl) (by decide) ?_
        exact WP.vret rfl (dg tX7_readRow 155 rfl) ⟨rfl, h⟩
      · replace h := h.2 z
        refine WP.aload_n 2 (dg tX7_readRow 27 rfl) rfl rfl ?_
        refine WP.getF fX7_35 h0.1 (dg tX7_readRow 28 rfl) ?_
        refine WP.bipush (v := 12) (dg tX7_readRow 29 rfl) (by decide) ?_
        refine WP.iload_n 1 (dg tX7_readRow 30 rfl) rfl rfl ?_
        refine WP.iadd (dg tX7_readRow 31 rfl) ?_
        refine WP.iload_n 0 (dg tX7_readRow 32 rfl) rfl rfl ?_
        obtain ⟨hb58, h⟩ := h
        refine WP.iast h0.2.2.2.2.2.2.2.2.2.1 hb58 (dg tX7_readRow 33 rfl) (fun M5 e_M5 => ?_)
        have h := h M5 e_M5
        refine WP.goto (tgt := 265) (dg tX7_readRow 34 rfl) (by decide) ?_
        exact WP.vret rfl (dg tX7_readRow 155 rfl) ⟨rfl, h⟩
  · replace h := h.2 z
    refine WP.aload_n 0 (dg tX7_readRow 3 rfl) rfl rfl ?_
    refine WP.getF fX7_13 h0.1 (dg tX7_readRow 4 rfl) ?_
    refine WP.iconst (v := 1) (dg tX7_readRow 5 rfl) (by decide) ?_
    refine WP.aload_n 0 (dg tX7_readRow 6 rfl) rfl rfl ?_
    refine WP.iconst (v := 4) (dg tX7_readRow 7 rfl) (by decide) ?_
    refine WP.bipush (v := 12) (dg tX7_readRow 8 rfl) (by decide) ?_
    refine WP.callVi (As := [.int 4, .int 12]) (st := [.int 1, .ref (x0 + 2)]) vX7_122 h0.1 rfl rfl ⟨Nat.le_of_ble_eq_true rfl, Nat.le_of_ble_eq_true rfl⟩ (Nat.le_of_ble_eq_true rfl) rfl (dg tX7_readRow 9 rfl) h (fun v2 M1 h => ?_)
    refine WP.iastc (k := 1) h0.2.2.1 (by decide) (by decide) (dg tX7_readRow 10 rfl) (fun M3 e_M3 => ?_)
    have h := h M3 e_M3
    refine WP.goto (tgt := 265) (dg tX7_readRow 11 rfl) (by decide) ?_
    exact WP.vret rfl (dg tX7_readRow 155 rfl) ⟨rfl, h⟩
theorem sg_X7_readRow_250 {T : Th} {M : Mm} {Q : Mm → Prop} {x0 : Nat} {s0 : Nat} {s1 : Int32} {s2 : Nat} (h0 : isX7 T x0) (hs0 : isX7 T s0) (hs2 : Ob T s2 (1, 8))
    (h : WPi T mX7_due [.ref s0, .int 0] M (fun v2 M1 => vp_in s1 8 ∧ (∀ M3 : Mm, M3 = sI M1 s2 s1.toNatClampNeg v2 → ∀ M4 : Mm, M4 = sI M3 (x0 + 8) 1 ((M3.1 (x0 + 8) 1) + 1) → Q M4))) :
    WP T mX7_readRow 250 [(0, .ref x0)] [.ref s0, .int s1, .ref s2] M (qv Q) := by
  refine WP.iconst (v := 0) (dg tX7_readRow 144 rfl) (by decide) ?_
  refine WP.callVi (As := [.int 0]) (st := [.int s1, .ref s2]) vX7_118 hs0.1 rfl rfl ⟨Nat.le_of_ble_eq_true rfl, Nat.le_of_ble_eq_true rfl⟩ (Nat.le_of_ble_eq_true rfl) rfl (dg tX7_readRow 145 rfl) h (fun v2 M1 h => ?_)
  obtain ⟨hb254, h⟩ := h
  refine WP.iast hs2 hb254 (dg tX7_readRow 146 rfl) (fun M3 e_M3 => ?_)
  have h := h M3 e_M3
  refine WP.aload_n 0 (dg tX7_readRow 147 rfl) rfl rfl ?_
  refine WP.getF fX7_32 h0.1 (dg tX7_readRow 148 rfl) ?_
  refine WP.iconst (v := 1) (dg tX7_readRow 149 rfl) (by decide) ?_
  refine WP.dup2 (dg tX7_readRow 150 rfl) rfl rfl ?_
  refine WP.ialdc (k := 1) h0.2.2.2.2.2.2.2.2.1 (by decide) (by decide) (dg tX7_readRow 151 rfl) ?_
  refine WP.iconst (v := 1) (dg tX7_readRow 152 rfl) (by decide) ?_
  refine WP.iadd (dg tX7_readRow 153 rfl) ?_
  refine WP.iastc (k := 1) h0.2.2.2.2.2.2.2.2.1 (by decide) (by decide) (dg tX7_readRow 154 rfl) (fun M4 e_M4 => ?_)
  have h := h M4 e_M4
  exact WP.vret rfl (dg tX7_readRow 155 rfl) ⟨rfl, h⟩
theorem sg_X7_world_0 {T : Th} {M : Mm} {Q : Int32 → Mm → Prop} {x0 : Nat} (h0 : isX7 T x0)
    (h : ∀ M1 : Mm, M1 = sI M x0 18 0 → ∀ M2 : Mm, M2 = sI M1 x0 22 (-9) → ∀ M3 : Mm, M3 = sI M2 x0 23 0 → ∀ M4 : Mm, M4 = sI M3 x0 24 0 → ∀ M5 : Mm, M5 = sI M4 x0 25 0 → ∀ M6 : Mm, M6 = sI M5 (x0 + 2) 1 8 → ∀ M7 : Mm, M7 = sI M6 (x0 + 3) 1 3 → ∀ M8 : Mm, M8 = sI M7 (x0 + 4) 1 5 → ∀ M9 : Mm, M9 = sI M8 (x0 + 5) 1 (-9) → ∀ M10 : Mm, M10 = sI M9 (x0 + 6) 1 0 → ∀ M11 : Mm, M11 = sI M10 (x0 + 7) 1 0 → ∀ M12 : Mm, M12 = sI M11 (x0 + 8) 1 0 → WP T mX7_world 79 [(0, .ref x0), (1, .int 0)] [] M12 (qi Q)) :
    WP T mX7_world 0 [(0, .ref x0)] [] M (qi Q) := by
  refine WP.aload_n 0 (dg tX7_world 0 rfl) rfl rfl ?_
  refine WP.iconst (v := 0) (dg tX7_world 1 rfl) (by decide) ?_
  refine WP.putI fX7_96 h0.1 (dg tX7_world 2 rfl) (fun M1 e_M1 => ?_)
  have h := h M1 e_M1
  refine WP.aload_n 0 (dg tX7_world 3 rfl) rfl rfl ?_
  refine WP.bipush (v := (-9)) (dg tX7_world 4 rfl) (by decide) ?_
  refine WP.putI fX7_112 h0.1 (dg tX7_world 5 rfl) (fun M2 e_M2 => ?_)
  have h := h M2 e_M2
  refine WP.aload_n 0 (dg tX7_world 6 rfl) rfl rfl ?_
  refine WP.iconst (v := 0) (dg tX7_world 7 rfl) (by decide) ?_
  refine WP.putI fX7_126 h0.1 (dg tX7_world 8 rfl) (fun M3 e_M3 => ?_)
  have h := h M3 e_M3
  refine WP.aload_n 0 (dg tX7_world 9 rfl) rfl rfl ?_
  refine WP.iconst (v := 0) (dg tX7_world 10 rfl) (by decide) ?_
  refine WP.putZ fX7_129 h0.1 (by decide) (dg tX7_world 11 rfl) (fun M4 e_M4 => ?_)
  have h := h M4 e_M4
  refine WP.aload_n 0 (dg tX7_world 12 rfl) rfl rfl ?_
  refine WP.iconst (v := 0) (dg tX7_world 13 rfl) (by decide) ?_
  refine WP.putZ fX7_133 h0.1 (by decide) (dg tX7_world 14 rfl) (fun M5 e_M5 => ?_)
  have h := h M5 e_M5
  refine WP.aload_n 0 (dg tX7_world 15 rfl) rfl rfl ?_
  refine WP.getF fX7_13 h0.1 (dg tX7_world 16 rfl) ?_
  refine WP.iconst (v := 1) (dg tX7_world 17 rfl) (by decide) ?_
  refine WP.bipush (v := 8) (dg tX7_world 18 rfl) (by decide) ?_
  refine WP.iastc (k := 1) h0.2.2.1 (by decide) (by decide) (dg tX7_world 19 rfl) (fun M6 e_M6 => ?_)
  have h := h M6 e_M6
  refine WP.aload_n 0 (dg tX7_world 20 rfl) rfl rfl ?_
  refine WP.getF fX7_17 h0.1 (dg tX7_world 21 rfl) ?_
  refine WP.iconst (v := 1) (dg tX7_world 22 rfl) (by decide) ?_
  refine WP.iconst (v := 3) (dg tX7_world 23 rfl) (by decide) ?_
  refine WP.iastc (k := 1) h0.2.2.2.1 (by decide) (by decide) (dg tX7_world 24 rfl) (fun M7 e_M7 => ?_)
  have h := h M7 e_M7
  refine WP.aload_n 0 (dg tX7_world 25 rfl) rfl rfl ?_
  refine WP.getF fX7_20 h0.1 (dg tX7_world 26 rfl) ?_
  refine WP.iconst (v := 1) (dg tX7_world 27 rfl) (by decide) ?_
  refine WP.iconst (v := 5) (dg tX7_world 28 rfl) (by decide) ?_
  refine WP.iastc (k := 1) h0.2.2.2.2.1 (by decide) (by decide) (dg tX7_world 29 rfl) (fun M8 e_M8 => ?_)
  have h := h M8 e_M8
  refine WP.aload_n 0 (dg tX7_world 30 rfl) rfl rfl ?_
  refine WP.getF fX7_23 h0.1 (dg tX7_world 31 rfl) ?_
  refine WP.iconst (v := 1) (dg tX7_world 32 rfl) (by decide) ?_
  refine WP.bipush (v := (-9)) (dg tX7_world 33 rfl) (by decide) ?_
  refine WP.iastc (k := 1) h0.2.2.2.2.2.1 (by decide) (by decide) (dg tX7_world 34 rfl) (fun M9 e_M9 => ?_)
  have h := h M9 e_M9
  refine WP.aload_n 0 (dg tX7_world 35 rfl) rfl rfl ?_
  refine WP.getF fX7_26 h0.1 (dg tX7_world 36 rfl) ?_
  refine WP.iconst (v := 1) (dg tX7_world 37 rfl) (by decide) ?_
  refine WP.iconst (v := 0) (dg tX7_world 38 rfl) (by decide) ?_
  refine WP.iastc (k := 1) h0.2.2.2.2.2.2.1 (by decide) (by decide) (dg tX7_world 39 rfl) (fun M10 e_M10 => ?_)
  have h := h M10 e_M10
  refine WP.aload_n 0 (dg tX7_world 40 rfl) rfl rfl ?_
  refine WP.getF fX7_29 h0.1 (dg tX7_world 41 rfl) ?_
  refine WP.iconst (v := 1) (dg tX7_world 42 rfl) (by decide) ?_
  refine WP.iconst (v := 0) (dg tX7_world 43 rfl) (by decide) ?_
  refine WP.iastc (k := 1) h0.2.2.2.2.2.2.2.1 (by decide) (by decide) (dg tX7_world 44 rfl) (fun M11 e_M11 => ?_)
  have h := h M11 e_M11
  refine WP.aload_n 0 (dg tX7_world 45 rfl) rfl rfl ?_
  refine WP.getF fX7_32 h0.1 (dg tX7_world 46 rfl) ?_
  refine WP.iconst (v := 1) (dg tX7_world 47 rfl) (by decide) ?_
  refine WP.iconst (v := 0) (dg tX7_world 48 rfl) (by decide) ?_
  refine WP.iastc (k := 1) h0.2.2.2.2.2.2.2.2.1 (by decide) (by decide) (dg tX7_world 49 rfl) (fun M12 e_M12 => ?_)
  have h := h M12 e_M12
  refine WP.iconst (v := 0) (dg tX7_world 50 rfl) (by decide) ?_
  refine WP.istore_n (L2 := [(1, .int 0), (0, .ref x0)]) (dg tX7_world 51 rfl) rfl (by decide) rfl ?_
  refine WP.sub [1, 0] rfl ?_
  exact h
theorem sg_X7_world_79 {T : Th} {M : Mm} {Q : Int32 → Mm → Prop} {x0 : Nat} {x1 : Int32} (h0 : isX7 T x0)
    (h : (12 ≤ x1 → WPv T mX7_next [.ref x0] M (fun M1 => WP T mX7_world 105 [(0, .ref x0)] [] M1 (qi Q))) ∧ (¬ 12 ≤ x1 → vp_in (12 + x1) 24 ∧ (∀ M1 : Mm, M1 = sI M (x0 + 9) (12 + x1).toNatClampNeg 1 → ∀ v2 : Int32, v2 = x1 + 1 → WP T mX7_world 79 [(0, .ref x0), (1, .int v2)] [] M1 (qi Q)))) :
    WP T mX7_world 79 [(0, .ref x0), (1, .int x1)] [] M (qi Q) := by
  refine WP.iload_n 1 (dg tX7_world 52 rfl) rfl rfl ?_
  refine WP.bipush (v := 12) (dg tX7_world 53 rfl) (by decide) ?_
  refine WP.icmp_ge (tgt := 101) (dg tX7_world 54 rfl) (by decide) (fun z => ?_) (fun z => ?_)
  · replace h := h.1 z
    refine WP.aload_n 0 (dg tX7_world 64 rfl) rfl rfl ?_
    refine WP.callVv (As := []) (st := []) vX7_115 h0.1 rfl rfl ⟨Nat.le_of_ble_eq_true rfl, Nat.le_of_ble_eq_true rfl⟩ (Nat.le_of_ble_eq_true rfl) rfl (dg tX7_world 65 rfl) h (fun M1 h => ?_)
    refine WP.sub [0] rfl ?_
    exact h
  · replace h := h.2 z
    refine WP.aload_n 0 (dg tX7_world 55 rfl) rfl rfl ?_
    refine WP.getF fX7_35 h0.1 (dg tX7_world 56 rfl) ?_
    refine WP.bipush (v := 12) (dg tX7_world 57 rfl) (by decide) ?_
    refine WP.iload_n 1 (dg tX7_world 58 rfl) rfl rfl ?_
    refine WP.iadd (dg tX7_world 59 rfl) ?_
    refine WP.iconst (v := 1) (dg tX7_world 60 rfl) (by decide) ?_
    obtain ⟨hb94, h⟩ := h
    refine WP.iast h0.2.2.2.2.2.2.2.2.2.1 hb94 (dg tX7_world 61 rfl) (fun M1 e_M1 => ?_)
    have h := h M1 e_M1
    obtain ⟨v2, e_v2⟩ : ∃ y : Int32, y = x1 + 1 := ⟨_, rfl⟩
    have h := h v2 e_v2
    refine WP.iinc (v := v2) (L2 := [(1, .int v2), (0, .ref x0)]) 1 (dg tX7_world 62 rfl) rfl (by rw [e_v2]; rfl) (by decide) rfl ?_
    refine WP.goto (tgt := 79) (dg tX7_world 63 rfl) (by decide) ?_
    refine WP.sub [1, 0] rfl ?_
    exact h
theorem sg_X7_world_105 {T : Th} {M : Mm} {Q : Int32 → Mm → Prop} {x0 : Nat} (h0 : isX7 T x0)
    (h : (¬ (M.1 x0 22) = (-9) → WP T mX7_world 182 [(0, .ref x0)] [] M (qi Q)) ∧ ((M.1 x0 22) = (-9) → ((M.1 x0 20) = 3 → WP T mX7_world 182 [(0, .ref x0)] [] M (qi Q)) ∧ (¬ (M.1 x0 20) = 3 → ∀ v1 : Int32, v1 = M.1 x0 20 → WPi T mX7_mayBe [.ref x0, .int v1] M (fun v3 M2 => WPi T mX7_due [.ref x0, .int v3] M2 (fun v5 M4 => (¬ (M4.1 x0 22) = (-9) → WP T mX7_world 105 [(0, .ref x0)] [] M4 (qi Q)) ∧ ((M4.1 x0 22) = (-9) → WPv T mX7_readRow [.ref x0, .int v1] M4 (fun M6 => (¬ (M6.1 x0 20) = 2 → WPi T mX7_due [.ref x0, .int 0] M6 (fun v8 M7 => ∀ M9 : Mm, M9 = sI M7 x0 23 ((M7.1 x0 23) + 1) → WP T mX7_world 105 [(0, .ref x0)] [] M9 (qi Q))) ∧ ((M6.1 x0 20) = 2 → WPi T mX7_due [.ref x0, .int 1] M6 (fun v8 M7 => ∀ M9 : Mm, M9 = sI M7 x0 23 ((M7.1 x0 23) + 1) → WP T mX7_world 105 [(0, .ref x0)] [] M9 (qi Q)))))))))) :
    WP T mX7_world 105 [(0, .ref x0)] [] M (qi Q) := by
  refine WP.aload_n 0 (dg tX7_world 66 rfl) rfl rfl ?_
  refine WP.getI fX7_112 h0.1 (dg tX7_world 67 rfl) ?_
  refine WP.bipush (v := (-9)) (dg tX7_world 68 rfl) (by decide) ?_
  refine WP.icmp_ne (tgt := 182) (dg tX7_world 69 rfl) (by decide) (fun z => ?_) (fun z => ?_)
  · replace h := h.1 z
    exact h
  · replace h := h.2 z
    refine WP.aload_n 0 (dg tX7_world 70 rfl) rfl rfl ?_
    refine WP.getI fX7_109 h0.1 (dg tX7_world 71 rfl) ?_
    refine WP.iconst (v := 3) (dg tX7_world 72 rfl) (by decide) ?_
    refine WP.icmp_eq (tgt := 182) (dg tX7_world 73 rfl) (by decide) (fun z => ?_) (fun z => ?_)
    · replace h := h.1 z
      exact h
    · replace h := h.2 z
      refine WP.aload_n 0 (dg tX7_world 74 rfl) rfl rfl ?_
      refine WP.getI fX7_109 h0.1 (dg tX7_world 75 rfl) ?_
      refine WP.topi (fun v1 e_v1 => ?_)
      have h := h v1 e_v1
      refine WP.istore_n (L2 := [(1, .int v1), (0, .ref x0)]) (dg tX7_world 76 rfl) rfl (by decide) rfl ?_
      refine WP.aload_n 1 (dg tX7_world 77 rfl) rfl rfl ?_
      refine WP.aload_n 1 (dg tX7_world 78 rfl) rfl rfl ?_
      refine WP.iload_n 0 (dg tX7_world 79 rfl) rfl rfl ?_
      refine WP.callVi (As := [.int v1]) (st := [.ref x0]) vX7_146 h0.1 rfl rfl ⟨Nat.le_of_ble_eq_true rfl, Nat.le_of_ble_eq_true rfl⟩ (Nat.le_of_ble_eq_true rfl) rfl (dg tX7_world 80 rfl) h (fun v3 M2 h => ?_)
      refine WP.callVi (As := [.int v3]) (st := []) vX7_118 h0.1 rfl rfl ⟨Nat.le_of_ble_eq_true rfl, Nat.le_of_ble_eq_true rfl⟩ (Nat.le_of_ble_eq_true rfl) rfl (dg tX7_world 81 rfl) h (fun v5 M4 h => ?_)
      refine WP.pop (dg tX7_world 82 rfl) rfl ?_
      refine WP.aload_n 1 (dg tX7_world 83 rfl) rfl rfl ?_
      refine WP.getI fX7_112 h0.1 (dg tX7_world 84 rfl) ?_
      refine WP.bipush (v := (-9)) (dg tX7_world 85 rfl) (by decide) ?_
      refine WP.icmp_ne (tgt := 179) (dg tX7_world 86 rfl) (by decide) (fun z => ?_) (fun z => ?_)
      · replace h := h.1 z
        refine WP.goto (tgt := 105) (dg tX7_world 106 rfl) (by decide) ?_
        refine WP.sub [1] rfl ?_
        exact h
      · replace h := h.2 z
        refine WP.aload_n 1 (dg tX7_world 87 rfl) rfl rfl ?_
        refine WP.iload_n 0 (dg tX7_world 88 rfl) rfl rfl ?_
        refine WP.callVv (As := [.int v1]) (st := []) vX7_150 h0.1 rfl rfl ⟨Nat.le_of_ble_eq_true rfl, Nat.le_of_ble_eq_true rfl⟩ (Nat.le_of_ble_eq_true rfl) rfl (dg tX7_world 89 rfl) h (fun M6 h => ?_)
        refine WP.aload_n 1 (dg tX7_world 90 rfl) rfl rfl ?_
        refine WP.aload_n 1 (dg tX7_world 91 rfl) rfl rfl ?_
        refine WP.getI fX7_109 h0.1 (dg tX7_world 92 rfl) ?_
        refine WP.iconst (v := 2) (dg tX7_world 93 rfl) (by decide) ?_
        refine WP.icmp_ne (tgt := 164) (dg tX7_world 94 rfl) (by decide) (fun z => ?_) (fun z => ?_)
        · replace h := h.1 z
          refine WP.iconst (v := 0) (dg tX7_world 97 rfl) (by decide) ?_
          refine WP.callVi (As := [.int 0]) (st := []) vX7_118 h0.1 rfl rfl ⟨Nat.le_of_ble_eq_true rfl, Nat.le_of_ble_eq_true rfl⟩ (Nat.le_of_ble_eq_true rfl) rfl (dg tX7_world 98 rfl) h (fun v8 M7 h => ?_)
          refine WP.pop (dg tX7_world 99 rfl) rfl ?_
          refine WP.aload_n 1 (dg tX7_world 100 rfl) rfl rfl ?_
          refine WP.dup (dg tX7_world 101 rfl) rfl ?_
          refine WP.getI fX7_126 h0.1 (dg tX7_world 102 rfl) ?_
          refine WP.iconst (v := 1) (dg tX7_world 103 rfl) (by decide) ?_
          refine WP.iadd (dg tX7_world 104 rfl) ?_
          refine WP.putI fX7_126 h0.1 (dg tX7_world 105 rfl) (fun M9 e_M9 => ?_)
          have h := h M9 e_M9
          refine WP.goto (tgt := 105) (dg tX7_world 106 rfl) (by decide) ?_
          refine WP.sub [1] rfl ?_
          exact h
        · replace h := h.2 z
          refine WP.iconst (v := 1) (dg tX7_world 95 rfl) (by decide) ?_
          refine WP.goto (tgt := 165) (dg tX7_world 96 rfl) (by decide) ?_
          refine WP.callVi (As := [.int 1]) (st := []) vX7_118 h0.1 rfl rfl ⟨Nat.le_of_ble_eq_true rfl, Nat.le_of_ble_eq_true rfl⟩ (Nat.le_of_ble_eq_true rfl) rfl (dg tX7_world 98 rfl) h (fun v8 M7 h => ?_)
          refine WP.pop (dg tX7_world 99 rfl) rfl ?_
          refine WP.aload_n 1 (dg tX7_world 100 rfl) rfl rfl ?_
          refine WP.dup (dg tX7_world 101 rfl) rfl ?_
          refine WP.getI fX7_126 h0.1 (dg tX7_world 102 rfl) ?_
          refine WP.iconst (v := 1) (dg tX7_world 103 rfl) (by decide) ?_
          refine WP.iadd (dg tX7_world 104 rfl) ?_
          refine WP.putI fX7_126 h0.1 (dg tX7_world 105 rfl) (fun M9 e_M9 => ?_)
          have h := h M9 e_M9
          refine WP.goto (tgt := 105) (dg tX7_world 106 rfl) (by decide) ?_
          refine WP.sub [1] rfl ?_
          exact h
theorem sg_X7_world_182 {T : Th} {M : Mm} {Q : Int32 → Mm → Prop} {x0 : Nat} (h0 : isX7 T x0)
    (h : ((M.1 x0 22) = (-9) → WPv T mX7_take [.ref x0] M (fun M1 => WPv T mX7_begin [.ref x0] M1 (fun M2 => ∀ M3 : Mm, M3 = sI M2 (x0 + 17) 31 0 → ∀ M4 : Mm, M4 = sI M3 (x0 + 19) 0 (vp_nar .boolean 0) → ∀ M5 : Mm, M5 = sI M4 (x0 + 19) 1 (vp_nar .boolean 0) → ∀ M6 : Mm, M6 = sI M5 x0 2 0 → Q (M6.1 x0 23) M6))) ∧ (¬ (M.1 x0 22) = (-9) → Q ((-10) - (M.1 x0 22)) M)) :
    WP T mX7_world 182 [(0, .ref x0)] [] M (qi Q) := by
  refine WP.aload_n 0 (dg tX7_world 107 rfl) rfl rfl ?_
  refine WP.getI fX7_112 h0.1 (dg tX7_world 108 rfl) ?_
  refine WP.bipush (v := (-9)) (dg tX7_world 109 rfl) (by decide) ?_
  refine WP.icmp_eq (tgt := 199) (dg tX7_world 110 rfl) (by decide) (fun z => ?_) (fun z => ?_)
  · replace h := h.1 z
    refine WP.aload_n 0 (dg tX7_world 116 rfl) rfl rfl ?_
    refine WP.callVv (As := []) (st := []) vX7_154 h0.1 rfl rfl ⟨Nat.le_of_ble_eq_true rfl, Nat.le_of_ble_eq_true rfl⟩ (Nat.le_of_ble_eq_true rfl) rfl (dg tX7_world 117 rfl) h (fun M1 h => ?_)
    refine WP.aload_n 0 (dg tX7_world 118 rfl) rfl rfl ?_
    refine WP.callVv (As := []) (st := []) vX7_157 h0.1 rfl rfl ⟨Nat.le_of_ble_eq_true rfl, Nat.le_of_ble_eq_true rfl⟩ (Nat.le_of_ble_eq_true rfl) rfl (dg tX7_world 119 rfl) h (fun M2 h => ?_)
    refine WP.aload_n 0 (dg tX7_world 120 rfl) rfl rfl ?_
    refine WP.getF fX7_59 h0.1 (dg tX7_world 121 rfl) ?_
    refine WP.bipush (v := 31) (dg tX7_world 122 rfl) (by decide) ?_
    refine WP.iconst (v := 0) (dg tX7_world 123 rfl) (by decide) ?_
    refine WP.iastc (k := 31) h0.2.2.2.2.2.2.2.2.2.2.2.2.2.2.2.2.2.1 (by decide) (by decide) (dg tX7_world 124 rfl) (fun M3 e_M3 => ?_)
    have h := h M3 e_M3
    refine WP.aload_n 0 (dg tX7_world 125 rfl) rfl rfl ?_
    refine WP.getF fX7_65 h0.1 (dg tX7_world 126 rfl) ?_
    refine WP.iconst (v := 0) (dg tX7_world 127 rfl) (by decide) ?_
    refine WP.iconst (v := 0) (dg tX7_world 128 rfl) (by decide) ?_
    refine WP.zastc (k := 0) h0.2.2.2.2.2.2.2.2.2.2.2.2.2.2.2.2.2.2.2.1 (by decide) (by decide) (dg tX7_world 129 rfl) (fun M4 e_M4 => ?_)
    have h := h M4 e_M4
    refine WP.aload_n 0 (dg tX7_world 130 rfl) rfl rfl ?_
    refine WP.getF fX7_65 h0.1 (dg tX7_world 131 rfl) ?_
    refine WP.iconst (v := 1) (dg tX7_world 132 rfl) (by decide) ?_
    refine WP.iconst (v := 0) (dg tX7_world 133 rfl) (by decide) ?_
    refine WP.zastc (k := 1) h0.2.2.2.2.2.2.2.2.2.2.2.2.2.2.2.2.2.2.2.1 (by decide) (by decide) (dg tX7_world 134 rfl) (fun M5 e_M5 => ?_)
    have h := h M5 e_M5
    refine WP.aload_n 0 (dg tX7_world 135 rfl) rfl rfl ?_
    refine WP.iconst (v := 0) (dg tX7_world 136 rfl) (by decide) ?_
    refine WP.putI fX7_92 h0.1 (dg tX7_world 137 rfl) (fun M6 e_M6 => ?_)
    have h := h M6 e_M6
    refine WP.aload_n 0 (dg tX7_world 138 rfl) rfl rfl ?_
    refine WP.getI fX7_126 h0.1 (dg tX7_world 139 rfl) ?_
    exact WP.iret rfl (dg tX7_world 140 rfl) ⟨_, rfl, h⟩
  · replace h := h.2 z
    refine WP.bipush (v := (-10)) (dg tX7_world 111 rfl) (by decide) ?_
    refine WP.aload_n 0 (dg tX7_world 112 rfl) rfl rfl ?_
    refine WP.getI fX7_112 h0.1 (dg tX7_world 113 rfl) ?_
    refine WP.isub (dg tX7_world 114 rfl) ?_
    exact WP.iret rfl (dg tX7_world 115 rfl) ⟨_, rfl, h⟩
theorem sg_X7_take_0 {T : Th} {M : Mm} {Q : Mm → Prop} {x0 : Nat} (h0 : isX7 T x0)
    (h : ∀ M1 : Mm, M1 = sI M (x0 + 2) 0 (M.1 (x0 + 2) 1) → ∀ M2 : Mm, M2 = sI M1 (x0 + 3) 0 (M1.1 (x0 + 3) 1) → ∀ M3 : Mm, M3 = sI M2 (x0 + 4) 0 (M2.1 (x0 + 4) 1) → ∀ M4 : Mm, M4 = sI M3 (x0 + 5) 0 (M3.1 (x0 + 5) 1) → ∀ M5 : Mm, M5 = sI M4 (x0 + 6) 0 (M4.1 (x0 + 6) 1) → ∀ M6 : Mm, M6 = sI M5 (x0 + 7) 0 (M5.1 (x0 + 7) 1) → ∀ M7 : Mm, M7 = sI M6 (x0 + 8) 0 (M6.1 (x0 + 8) 1) → WP T mX7_take 86 [(0, .ref x0), (1, .int 0)] [] M7 (qv Q)) :
    WP T mX7_take 0 [(0, .ref x0)] [] M (qv Q) := by
  refine WP.aload_n 0 (dg tX7_take 0 rfl) rfl rfl ?_
  refine WP.getF fX7_13 h0.1 (dg tX7_take 1 rfl) ?_
  refine WP.iconst (v := 0) (dg tX7_take 2 rfl) (by decide) ?_
  refine WP.aload_n 0 (dg tX7_take 3 rfl) rfl rfl ?_
  refine WP.getF fX7_13 h0.1 (dg tX7_take 4 rfl) ?_
  refine WP.iconst (v := 1) (dg tX7_take 5 rfl) (by decide) ?_
  refine WP.ialdc (k := 1) h0.2.2.1 (by decide) (by decide) (dg tX7_take 6 rfl) ?_
  refine WP.iastc (k := 0) h0.2.2.1 (by decide) (by decide) (dg tX7_take 7 rfl) (fun M1 e_M1 => ?_)
  have h := h M1 e_M1
  refine WP.aload_n 0 (dg tX7_take 8 rfl) rfl rfl ?_
  refine WP.getF fX7_17 h0.1 (dg tX7_take 9 rfl) ?_
  refine WP.iconst (v := 0) (dg tX7_take 10 rfl) (by decide) ?_
  refine WP.aload_n 0 (dg tX7_take 11 rfl) rfl rfl ?_
  refine WP.getF fX7_17 h0.1 (dg tX7_take 12 rfl) ?_
  refine WP.iconst (v := 1) (dg tX7_take 13 rfl) (by decide) ?_
  refine WP.ialdc (k := 1) h0.2.2.2.1 (by decide) (by decide) (dg tX7_take 14 rfl) ?_
  refine WP.iastc (k := 0) h0.2.2.2.1 (by decide) (by decide) (dg tX7_take 15 rfl) (fun M2 e_M2 => ?_)
  have h := h M2 e_M2
  refine WP.aload_n 0 (dg tX7_take 16 rfl) rfl rfl ?_
  refine WP.getF fX7_20 h0.1 (dg tX7_take 17 rfl) ?_
  refine WP.iconst (v := 0) (dg tX7_take 18 rfl) (by decide) ?_
  refine WP.aload_n 0 (dg tX7_take 19 rfl) rfl rfl ?_
  refine WP.getF fX7_20 h0.1 (dg tX7_take 20 rfl) ?_
  refine WP.iconst (v := 1) (dg tX7_take 21 rfl) (by decide) ?_
  refine WP.ialdc (k := 1) h0.2.2.2.2.1 (by decide) (by decide) (dg tX7_take 22 rfl) ?_
  refine WP.iastc (k := 0) h0.2.2.2.2.1 (by decide) (by decide) (dg tX7_take 23 rfl) (fun M3 e_M3 => ?_)
  have h := h M3 e_M3
  refine WP.aload_n 0 (dg tX7_take 24 rfl) rfl rfl ?_
  refine WP.getF fX7_23 h0.1 (dg tX7_take 25 rfl) ?_
  refine WP.iconst (v := 0) (dg tX7_take 26 rfl) (by decide) ?_
  refine WP.aload_n 0 (dg tX7_take 27 rfl) rfl rfl ?_
  refine WP.getF fX7_23 h0.1 (dg tX7_take 28 rfl) ?_
  refine WP.iconst (v := 1) (dg tX7_take 29 rfl) (by decide) ?_
  refine WP.ialdc (k := 1) h0.2.2.2.2.2.1 (by decide) (by decide) (dg tX7_take 30 rfl) ?_
  refine WP.iastc (k := 0) h0.2.2.2.2.2.1 (by decide) (by decide) (dg tX7_take 31 rfl) (fun M4 e_M4 => ?_)
  have h := h M4 e_M4
  refine WP.aload_n 0 (dg tX7_take 32 rfl) rfl rfl ?_
  refine WP.getF fX7_26 h0.1 (dg tX7_take 33 rfl) ?_
  refine WP.iconst (v := 0) (dg tX7_take 34 rfl) (by decide) ?_
  refine WP.aload_n 0 (dg tX7_take 35 rfl) rfl rfl ?_
  refine WP.getF fX7_26 h0.1 (dg tX7_take 36 rfl) ?_
  refine WP.iconst (v := 1) (dg tX7_take 37 rfl) (by decide) ?_
  refine WP.ialdc (k := 1) h0.2.2.2.2.2.2.1 (by decide) (by decide) (dg tX7_take 38 rfl) ?_
  refine WP.iastc (k := 0) h0.2.2.2.2.2.2.1 (by decide) (by decide) (dg tX7_take 39 rfl) (fun M5 e_M5 => ?_)
  have h := h M5 e_M5
  refine WP.aload_n 0 (dg tX7_take 40 rfl) rfl rfl ?_
  refine WP.getF fX7_29 h0.1 (dg tX7_take 41 rfl) ?_
  refine WP.iconst (v := 0) (dg tX7_take 42 rfl) (by decide) ?_
  refine WP.aload_n 0 (dg tX7_take 43 rfl) rfl rfl ?_
  refine WP.getF fX7_29 h0.1 (dg tX7_take 44 rfl) ?_
  refine WP.iconst (v := 1) (dg tX7_take 45 rfl) (by decide) ?_
  refine WP.ialdc (k := 1) h0.2.2.2.2.2.2.2.1 (by decide) (by decide) (dg tX7_take 46 rfl) ?_
  refine WP.iastc (k := 0) h0.2.2.2.2.2.2.2.1 (by decide) (by decide) (dg tX7_take 47 rfl) (fun M6 e_M6 => ?_)
  have h := h M6 e_M6
  refine WP.aload_n 0 (dg tX7_take 48 rfl) rfl rfl ?_
  refine WP.getF fX7_32 h0.1 (dg tX7_take 49 rfl) ?_
  refine WP.iconst (v := 0) (dg tX7_take 50 rfl) (by decide) ?_
  refine WP.aload_n 0 (dg tX7_take 51 rfl) rfl rfl ?_
  refine WP.getF fX7_32 h0.1 (dg tX7_take 52 rfl) ?_
  refine WP.iconst (v := 1) (dg tX7_take 53 rfl) (by decide) ?_
  refine WP.ialdc (k := 1) h0.2.2.2.2.2.2.2.2.1 (by decide) (by decide) (dg tX7_take 54 rfl) ?_
  refine WP.iastc (k := 0) h0.2.2.2.2.2.2.2.2.1 (by decide) (by decide) (dg tX7_take 55 rfl) (fun M7 e_M7 => ?_)
  have h := h M7 e_M7
  refine WP.iconst (v := 0) (dg tX7_take 56 rfl) (by decide) ?_
  refine WP.istore_n (L2 := [(1, .int 0), (0, .ref x0)]) (dg tX7_take 57 rfl) rfl (by decide) rfl ?_
  refine WP.sub [1, 0] rfl ?_
  exact h
theorem sg_X7_take_86 {T : Th} {M : Mm} {Q : Mm → Prop} {x0 : Nat} {x1 : Int32} (h0 : isX7 T x0)
    (h : (12 ≤ x1 → WP T mX7_take 115 [(0, .ref x0), (1, .int 0)] [] M (qv Q)) ∧ (¬ 12 ≤ x1 → vp_in (12 + x1) 24 ∧ (vp_in x1 24 ∧ (∀ M1 : Mm, M1 = sI M (x0 + 9) x1.toNatClampNeg (M.1 (x0 + 9) (12 + x1).toNatClampNeg) → ∀ v2 : Int32, v2 = x1 + 1 → WP T mX7_take 86 [(0, .ref x0), (1, .int v2)] [] M1 (qv Q))))) :
    WP T mX7_take 86 [(0, .ref x0), (1, .int x1)] [] M (qv Q) := by
  refine WP.iload_n 1 (dg tX7_take 58 rfl) rfl rfl ?_
  refine WP.bipush (v := 12) (dg tX7_take 59 rfl) (by decide) ?_
  refine WP.icmp_ge (tgt := 113) (dg tX7_take 60 rfl) (by decide) (fun z => ?_) (fun z => ?_)
  · replace h := h.1 z
    refine WP.iconst (v := 0) (dg tX7_take 73 rfl) (by decide) ?_
    refine WP.istore_n (L2 := [(1, .int 0), (0, .ref x0)]) (dg tX7_take 74 rfl) rfl (by decide) rfl ?_
    refine WP.sub [1, 0] rfl ?_
    exact h
  · replace h := h.2 z
    refine WP.aload_n 0 (dg tX7_take 61 rfl) rfl rfl ?_
    refine WP.getF fX7_35 h0.1 (dg tX7_take 62 rfl) ?_
    refine WP.iload_n 1 (dg tX7_take 63 rfl) rfl rfl ?_
    refine WP.aload_n 0 (dg tX7_take 64 rfl) rfl rfl ?_
    refine WP.getF fX7_35 h0.1 (dg tX7_take 65 rfl) ?_
    refine WP.bipush (v := 12) (dg tX7_take 66 rfl) (by decide) ?_
    refine WP.iload_n 1 (dg tX7_take 67 rfl) rfl rfl ?_
    refine WP.iadd (dg tX7_take 68 rfl) ?_
    obtain ⟨hb105, h⟩ := h
    refine WP.iald h0.2.2.2.2.2.2.2.2.2.1 hb105 (dg tX7_take 69 rfl) ?_
    obtain ⟨hb106, h⟩ := h
    refine WP.iast h0.2.2.2.2.2.2.2.2.2.1 hb106 (dg tX7_take 70 rfl) (fun M1 e_M1 => ?_)
    have h := h M1 e_M1
    obtain ⟨v2, e_v2⟩ : ∃ y : Int32, y = x1 + 1 := ⟨_, rfl⟩
    have h := h v2 e_v2
    refine WP.iinc (v := v2) (L2 := [(1, .int v2), (0, .ref x0)]) 1 (dg tX7_take 71 rfl) rfl (by rw [e_v2]; rfl) (by decide) rfl ?_
    refine WP.goto (tgt := 86) (dg tX7_take 72 rfl) (by decide) ?_
    refine WP.sub [1, 0] rfl ?_
    exact h
theorem sg_X7_take_115 {T : Th} {M : Mm} {Q : Mm → Prop} {x0 : Nat} {x1 : Int32} (h0 : isX7 T x0)
    (h : (5 ≤ x1 → WP T mX7_take 196 [(0, .ref x0), (1, .int 0)] [] M (qv Q)) ∧ (¬ 5 ≤ x1 → vp_in (5 + x1) 10 ∧ (vp_in x1 10 ∧ (∀ M1 : Mm, M1 = sI M (x0 + 10) x1.toNatClampNeg (M.1 (x0 + 10) (5 + x1).toNatClampNeg) → vp_in (5 + x1) 10 ∧ (vp_in x1 10 ∧ (∀ M2 : Mm, M2 = sI M1 (x0 + 11) x1.toNatClampNeg (M1.1 (x0 + 11) (5 + x1).toNatClampNeg) → vp_in (5 + x1) 10 ∧ (vp_in x1 10 ∧ (∀ M3 : Mm, M3 = sI M2 (x0 + 12) x1.toNatClampNeg (M2.1 (x0 + 12) (5 + x1).toNatClampNeg) → vp_in (5 + x1) 10 ∧ (vp_in x1 10 ∧ (∀ M4 : Mm, M4 = sI M3 (x0 + 13) x1.toNatClampNeg (M3.1 (x0 + 13) (5 + x1).toNatClampNeg) → vp_in x1 10 ∧ (vp_in x1 5 ∧ (∀ M5 : Mm, M5 = sI M4 (x0 + 16) x1.toNatClampNeg (M4.1 (x0 + 11) x1.toNatClampNeg) → ∀ v6 : Int32, v6 = x1 + 1 → WP T mX7_take 115 [(0, .ref x0), (1, .int v6)] [] M5 (qv Q))))))))))))) :
    WP T mX7_take 115 [(0, .ref x0), (1, .int x1)] [] M (qv Q) := by
  refine WP.iload_n 1 (dg tX7_take 75 rfl) rfl rfl ?_
  refine WP.iconst (v := 5) (dg tX7_take 76 rfl) (by decide) ?_
  refine WP.icmp_ge (tgt := 194) (dg tX7_take 77 rfl) (by decide) (fun z => ?_) (fun z => ?_)
  · replace h := h.1 z
    refine WP.iconst (v := 0) (dg tX7_take 128 rfl) (by decide) ?_
    refine WP.istore_n (L2 := [(1, .int 0), (0, .ref x0)]) (dg tX7_take 129 rfl) rfl (by decide) rfl ?_
    refine WP.sub [1, 0] rfl ?_
    exact h
  · replace h := h.2 z
    refine WP.aload_n 0 (dg tX7_take 78 rfl) rfl rfl ?_
    refine WP.getF fX7_38 h0.1 (dg tX7_take 79 rfl) ?_
    refine WP.iload_n 1 (dg tX7_take 80 rfl) rfl rfl ?_
    refine WP.aload_n 0 (dg tX7_take 81 rfl) rfl rfl ?_
    refine WP.getF fX7_38 h0.1 (dg tX7_take 82 rfl) ?_
    refine WP.iconst (v := 5) (dg tX7_take 83 rfl) (by decide) ?_
    refine WP.iload_n 1 (dg tX7_take 84 rfl) rfl rfl ?_
    refine WP.iadd (dg tX7_take 85 rfl) ?_
    obtain ⟨hb132, h⟩ := h
    refine WP.iald h0.2.2.2.2.2.2.2.2.2.2.1 hb132 (dg tX7_take 86 rfl) ?_
    obtain ⟨hb133, h⟩ := h
    refine WP.iast h0.2.2.2.2.2.2.2.2.2.2.1 hb133 (dg tX7_take 87 rfl) (fun M1 e_M1 => ?_)
    have h := h M1 e_M1
    refine WP.aload_n 0 (dg tX7_take 88 rfl) rfl rfl ?_
    refine WP.getF fX7_41 h0.1 (dg tX7_take 89 rfl) ?_
    refine WP.iload_n 1 (dg tX7_take 90 rfl) rfl rfl ?_
    refine WP.aload_n 0 (dg tX7_take 91 rfl) rfl rfl ?_
    refine WP.getF fX7_41 h0.1 (dg tX7_take 92 rfl) ?_
    refine WP.iconst (v := 5) (dg tX7_take 93 rfl) (by decide) ?_
    refine WP.iload_n 1 (dg tX7_take 94 rfl) rfl rfl ?_
    refine WP.iadd (dg tX7_take 95 rfl) ?_
    obtain ⟨hb146, h⟩ := h
    refine WP.iald h0.2.2.2.2.2.2.2.2.2.2.2.1 hb146 (dg tX7_take 96 rfl) ?_
    obtain ⟨hb147, h⟩ := h
    refine WP.iast h0.2.2.2.2.2.2.2.2.2.2.2.1 hb147 (dg tX7_take 97 rfl) (fun M2 e_M2 => ?_)
    have h := h M2 e_M2
    refine WP.aload_n 0 (dg tX7_take 98 rfl) rfl rfl ?_
    refine WP.getF fX7_44 h0.1 (dg tX7_take 99 rfl) ?_
    refine WP.iload_n 1 (dg tX7_take 100 rfl) rfl rfl ?_
    refine WP.aload_n 0 (dg tX7_take 101 rfl) rfl rfl ?_
    refine WP.getF fX7_44 h0.1 (dg tX7_take 102 rfl) ?_
    refine WP.iconst (v := 5) (dg tX7_take 103 rfl) (by decide) ?_
    refine WP.iload_n 1 (dg tX7_take 104 rfl) rfl rfl ?_
    refine WP.iadd (dg tX7_take 105 rfl) ?_
    obtain ⟨hb160, h⟩ := h
    refine WP.iald h0.2.2.2.2.2.2.2.2.2.2.2.2.1 hb160 (dg tX7_take 106 rfl) ?_
    obtain ⟨hb161, h⟩ := h
    refine WP.iast h0.2.2.2.2.2.2.2.2.2.2.2.2.1 hb161 (dg tX7_take 107 rfl) (fun M3 e_M3 => ?_)
    have h := h M3 e_M3
    refine WP.aload_n 0 (dg tX7_take 108 rfl) rfl rfl ?_
    refine WP.getF fX7_47 h0.1 (dg tX7_take 109 rfl) ?_
    refine WP.iload_n 1 (dg tX7_take 110 rfl) rfl rfl ?_
    refine WP.aload_n 0 (dg tX7_take 111 rfl) rfl rfl ?_
    refine WP.getF fX7_47 h0.1 (dg tX7_take 112 rfl) ?_
    refine WP.iconst (v := 5) (dg tX7_take 113 rfl) (by decide) ?_
    refine WP.iload_n 1 (dg tX7_take 114 rfl) rfl rfl ?_
    refine WP.iadd (dg tX7_take 115 rfl) ?_
    obtain ⟨hb174, h⟩ := h
    refine WP.iald h0.2.2.2.2.2.2.2.2.2.2.2.2.2.1 hb174 (dg tX7_take 116 rfl) ?_
    obtain ⟨hb175, h⟩ := h
    refine WP.iast h0.2.2.2.2.2.2.2.2.2.2.2.2.2.1 hb175 (dg tX7_take 117 rfl) (fun M4 e_M4 => ?_)
    have h := h M4 e_M4
    refine WP.aload_n 0 (dg tX7_take 118 rfl) rfl rfl ?_
    refine WP.getF fX7_56 h0.1 (dg tX7_take 119 rfl) ?_
    refine WP.iload_n 1 (dg tX7_take 120 rfl) rfl rfl ?_
    refine WP.aload_n 0 (dg tX7_take 121 rfl) rfl rfl ?_
    refine WP.getF fX7_41 h0.1 (dg tX7_take 122 rfl) ?_
    refine WP.iload_n 1 (dg tX7_take 123 rfl) rfl rfl ?_
    obtain ⟨hb186, h⟩ := h
    refine WP.iald h0.2.2.2.2.2.2.2.2.2.2.2.1 hb186 (dg tX7_take 124 rfl) ?_
    obtain ⟨hb187, h⟩ := h
    refine WP.iast h0.2.2.2.2.2.2.2.2.2.2.2.2.2.2.2.2.1 hb187 (dg tX7_take 125 rfl) (fun M5 e_M5 => ?_)
    have h := h M5 e_M5
    obtain ⟨v6, e_v6⟩ : ∃ y : Int32, y = x1 + 1 := ⟨_, rfl⟩
    have h := h v6 e_v6
    refine WP.iinc (v := v6) (L2 := [(1, .int v6), (0, .ref x0)]) 1 (dg tX7_take 126 rfl) rfl (by rw [e_v6]; rfl) (by decide) rfl ?_
    refine WP.goto (tgt := 115) (dg tX7_take 127 rfl) (by decide) ?_
    refine WP.sub [1, 0] rfl ?_
    exact h
theorem sg_X7_take_196 {T : Th} {M : Mm} {Q : Mm → Prop} {x0 : Nat} {x1 : Int32} (h0 : isX7 T x0)
    (h : (5 ≤ x1 → Q M) ∧ (¬ 5 ≤ x1 → WP T mX7_take 203 [(0, .ref x0), (1, .int x1), (2, .int 0)] [] M (qv Q))) :
    WP T mX7_take 196 [(0, .ref x0), (1, .int x1)] [] M (qv Q) := by
  refine WP.iload_n 1 (dg tX7_take 130 rfl) rfl rfl ?_
  refine WP.iconst (v := 5) (dg tX7_take 131 rfl) (by decide) ?_
  refine WP.icmp_ge (tgt := 295) (dg tX7_take 132 rfl) (by decide) (fun z => ?_) (fun z => ?_)
  · replace h := h.1 z
    exact WP.vret rfl (dg tX7_take 188 rfl) ⟨rfl, h⟩
  · replace h := h.2 z
    refine WP.iconst (v := 0) (dg tX7_take 133 rfl) (by decide) ?_
    refine WP.istore_n (L2 := [(2, .int 0), (0, .ref x0), (1, .int x1)]) (dg tX7_take 134 rfl) rfl (by decide) rfl ?_
    refine WP.sub [1, 2, 0] rfl ?_
    exact h
theorem sg_X7_take_203 {T : Th} {M : Mm} {Q : Mm → Prop} {x0 : Nat} {x1 : Int32} {x2 : Int32} (h0 : isX7 T x0)
    (h : ((M.1 (x0 + 8) 0) ≤ x2 → ∀ v1 : Int32, v1 = x1 + 1 → WP T mX7_take 196 [(0, .ref x0), (1, .int v1)] [] M (qv Q)) ∧ (¬ (M.1 (x0 + 8) 0) ≤ x2 → vp_in (4 + x2) 8 ∧ (∀ v1 : Int32, v1 = M.1 (x0 + 14) (4 + x2).toNatClampNeg → vp_in (4 + x2) 8 ∧ (∀ v2 : Int32, v2 = M.1 (x0 + 15) (4 + x2).toNatClampNeg → vp_in v1 5 ∧ (vp_in v2 5 ∧ (((M.1 (x0 + 16) v1.toNatClampNeg) ≤ (M.1 (x0 + 16) v2.toNatClampNeg) → vp_in v2 5 ∧ (WP T mX7_take 264 [(0, .ref x0), (1, .int x1), (2, .int x2), (3, .int v1), (4, .int v2)] [.int (M.1 (x0 + 16) v2.toNatClampNeg)] M (qv Q))) ∧ (¬ (M.1 (x0 + 16) v1.toNatClampNeg) ≤ (M.1 (x0 + 16) v2.toNatClampNeg) → vp_in v1 5 ∧ (WP T mX7_take 264 [(0, .ref x0), (1, .int x1), (2, .int x2), (3, .int v1), (4, .int v2)] [.int (M.1 (x0 + 16) v1.toNatClampNeg)] M (qv Q))))))))) :
    WP T mX7_take 203 [(0, .ref x0), (1, .int x1), (2, .int x2)] [] M (qv Q) := by
  refine WP.iload_n 2 (dg tX7_take 135 rfl) rfl rfl ?_
  refine WP.aload_n 0 (dg tX7_take 136 rfl) rfl rfl ?_
  refine WP.getF fX7_32 h0.1 (dg tX7_take 137 rfl) ?_
  refine WP.iconst (v := 0) (dg tX7_take 138 rfl) (by decide) ?_
  refine WP.ialdc (k := 0) h0.2.2.2.2.2.2.2.2.1 (by decide) (by decide) (dg tX7_take 139 rfl) ?_
  refine WP.icmp_ge (tgt := 289) (dg tX7_take 140 rfl) (by decide) (fun z => ?_) (fun z => ?_)
  · replace h := h.1 z
    obtain ⟨v1, e_v1⟩ : ∃ y : Int32, y = x1 + 1 := ⟨_, rfl⟩
    have h := h v1 e_v1
    refine WP.iinc (v := v1) (L2 := [(1, .int v1), (0, .ref x0), (2, .int x2)]) 1 (dg tX7_take 186 rfl) rfl (by rw [e_v1]; rfl) (by decide) rfl ?_
    refine WP.goto (tgt := 196) (dg tX7_take 187 rfl) (by decide) ?_
    refine WP.sub [1, 0] rfl ?_
    exact h
  · replace h := h.2 z
    refine WP.aload_n 0 (dg tX7_take 141 rfl) rfl rfl ?_
    refine WP.getF fX7_50 h0.1 (dg tX7_take 142 rfl) ?_
    refine WP.iconst (v := 4) (dg tX7_take 143 rfl) (by decide) ?_
    refine WP.iload_n 2 (dg tX7_take 144 rfl) rfl rfl ?_
    refine WP.iadd (dg tX7_take 145 rfl) ?_
    obtain ⟨hb220, h⟩ := h
    refine WP.iald h0.2.2.2.2.2.2.2.2.2.2.2.2.2.2.1 hb220 (dg tX7_take 146 rfl) ?_
    refine WP.topi (fun v1 e_v1 => ?_)
    have h := h v1 e_v1
    refine WP.istore_n (L2 := [(3, .int v1), (0, .ref x0), (1, .int x1), (2, .int x2)]) (dg tX7_take 147 rfl) rfl (by decide) rfl ?_
    refine WP.aload_n 1 (dg tX7_take 148 rfl) rfl rfl ?_
    refine WP.getF fX7_53 h0.1 (dg tX7_take 149 rfl) ?_
    refine WP.iconst (v := 4) (dg tX7_take 150 rfl) (by decide) ?_
    refine WP.iload_n 3 (dg tX7_take 151 rfl) rfl rfl ?_
    refine WP.iadd (dg tX7_take 152 rfl) ?_
    obtain ⟨hb229, h⟩ := h
    refine WP.iald h0.2.2.2.2.2.2.2.2.2.2.2.2.2.2.2.1 hb229 (dg tX7_take 153 rfl) ?_
    refine WP.topi (fun v2 e_v2 => ?_)
    have h := h v2 e_v2
    refine WP.istore (L2 := [(4, .int v2), (3, .int v1), (0, .ref x0), (1, .int x1), (2, .int x2)]) (dg tX7_take 154 rfl) (by decide) rfl ?_
    refine WP.aload_n 2 (dg tX7_take 155 rfl) rfl rfl ?_
    refine WP.getF fX7_56 h0.1 (dg tX7_take 156 rfl) ?_
    refine WP.iload_n 1 (dg tX7_take 157 rfl) rfl rfl ?_
    obtain ⟨hb237, h⟩ := h
    refine WP.iald h0.2.2.2.2.2.2.2.2.2.2.2.2.2.2.2.2.1 hb237 (dg tX7_take 158 rfl) ?_
    refine WP.aload_n 2 (dg tX7_take 159 rfl) rfl rfl ?_
    refine WP.getF fX7_56 h0.1 (dg tX7_take 160 rfl) ?_
    refine WP.iload 0 (dg tX7_take 161 rfl) rfl ?_
    obtain ⟨hb244, h⟩ := h
    refine WP.iald h0.2.2.2.2.2.2.2.2.2.2.2.2.2.2.2.2.1 hb244 (dg tX7_take 162 rfl) ?_
    refine WP.icmp_le (tgt := 257) (dg tX7_take 163 rfl) (by decide) (fun z => ?_) (fun z => ?_)
    · replace h := h.1 z
      refine WP.aload_n 2 (dg tX7_take 169 rfl) rfl rfl ?_
      refine WP.getF fX7_56 h0.1 (dg tX7_take 170 rfl) ?_
      refine WP.iload 0 (dg tX7_take 171 rfl) rfl ?_
      obtain ⟨hb263, h⟩ := h
      refine WP.iald h0.2.2.2.2.2.2.2.2.2.2.2.2.2.2.2.2.1 hb263 (dg tX7_take 172 rfl) ?_
      refine WP.sub [2, 3, 4, 1, 0] rfl ?_
      exact h
    · replace h := h.2 z
      refine WP.aload_n 2 (dg tX7_take 164 rfl) rfl rfl ?_
      refine WP.getF fX7_56 h0.1 (dg tX7_take 165 rfl) ?_
      refine WP.iload_n 1 (dg tX7_take 166 rfl) rfl rfl ?_
      obtain ⟨hb253, h⟩ := h
      refine WP.iald h0.2.2.2.2.2.2.2.2.2.2.2.2.2.2.2.2.1 hb253 (dg tX7_take 167 rfl) ?_
      refine WP.goto (tgt := 264) (dg tX7_take 168 rfl) (by decide) ?_
      refine WP.sub [2, 3, 4, 1, 0] rfl ?_
      exact h
theorem sg_X7_take_264 {T : Th} {M : Mm} {Q : Mm → Prop} {x0 : Nat} {x1 : Int32} {x2 : Int32} {x3 : Int32} {x4 : Int32} {s0 : Int32} (h0 : isX7 T x0)
    (h : vp_in x3 5 ∧ (∀ M1 : Mm, M1 = sI M (x0 + 16) x3.toNatClampNeg s0 → vp_in x4 5 ∧ (∀ M2 : Mm, M2 = sI M1 (x0 + 16) x4.toNatClampNeg s0 → ∀ v3 : Int32, v3 = x2 + 1 → WP T mX7_take 203 [(0, .ref x0), (1, .int x1), (2, .int v3)] [] M2 (qv Q)))) :
    WP T mX7_take 264 [(0, .ref x0), (1, .int x1), (2, .int x2), (3, .int x3), (4, .int x4)] [.int s0] M (qv Q) := by
  refine WP.istore (L2 := [(5, .int s0), (0, .ref x0), (1, .int x1), (2, .int x2), (3, .int x3), (4, .int x4)]) (dg tX7_take 173 rfl) (by decide) rfl ?_
  refine WP.aload_n 1 (dg tX7_take 174 rfl) rfl rfl ?_
  refine WP.getF fX7_56 h0.1 (dg tX7_take 175 rfl) ?_
  refine WP.iload_n 4 (dg tX7_take 176 rfl) rfl rfl ?_
  refine WP.iload 0 (dg tX7_take 177 rfl) rfl ?_
  obtain ⟨hb273, h⟩ := h
  refine WP.iast h0.2.2.2.2.2.2.2.2.2.2.2.2.2.2.2.2.1 hb273 (dg tX7_take 178 rfl) (fun M1 e_M1 => ?_)
  have h := h M1 e_M1
  refine WP.aload_n 1 (dg tX7_take 179 rfl) rfl rfl ?_
  refine WP.getF fX7_56 h0.1 (dg tX7_take 180 rfl) ?_
  refine WP.iload 5 (dg tX7_take 181 rfl) rfl ?_
  refine WP.iload 0 (dg tX7_take 182 rfl) rfl ?_
  obtain ⟨hb282, h⟩ := h
  refine WP.iast h0.2.2.2.2.2.2.2.2.2.2.2.2.2.2.2.2.1 hb282 (dg tX7_take 183 rfl) (fun M2 e_M2 => ?_)
  have h := h M2 e_M2
  obtain ⟨v3, e_v3⟩ : ∃ y : Int32, y = x2 + 1 := ⟨_, rfl⟩
  have h := h v3 e_v3
  refine WP.iinc (v := v3) (L2 := [(2, .int v3), (5, .int s0), (0, .ref x0), (1, .int x1), (3, .int x3), (4, .int x4)]) 3 (dg tX7_take 184 rfl) rfl (by rw [e_v3]; rfl) (by decide) rfl ?_
  refine WP.goto (tgt := 203) (dg tX7_take 185 rfl) (by decide) ?_
  refine WP.sub [2, 3, 0] rfl ?_
  exact h
theorem sg_X7_costAt_0 {T : Th} {M : Mm} {Q : Int32 → Mm → Prop} {x0 : Nat} {x1 : Int32} (h0 : isX7 T x0)
    (h : ¬ (M.1 (x0 + 2) 0) = 0 ∧ (vp_in (x1 - x1 / (M.1 (x0 + 2) 0) * (M.1 (x0 + 2) 0)) 24 ∧ (Q (M.1 (x0 + 9) (x1 - x1 / (M.1 (x0 + 2) 0) * (M.1 (x0 + 2) 0)).toNatClampNeg) M))) :
    WP T mX7_costAt 0 [(0, .ref x0), (1, .int x1)] [] M (qi Q) := by
  refine WP.aload_n 0 (dg tX7_costAt 0 rfl) rfl rfl ?_
  refine WP.getF fX7_35 h0.1 (dg tX7_costAt 1 rfl) ?_
  refine WP.iload_n 1 (dg tX7_costAt 2 rfl) rfl rfl ?_
  refine WP.aload_n 0 (dg tX7_costAt 3 rfl) rfl rfl ?_
  refine WP.getF fX7_13 h0.1 (dg tX7_costAt 4 rfl) ?_
  refine WP.iconst (v := 0) (dg tX7_costAt 5 rfl) (by decide) ?_
  refine WP.ialdc (k := 0) h0.2.2.1 (by decide) (by decide) (dg tX7_costAt 6 rfl) ?_
  obtain ⟨hz11, h⟩ := h
  refine WP.irem (dg tX7_costAt 7 rfl) hz11 ?_
  obtain ⟨hb12, h⟩ := h
  refine WP.iald h0.2.2.2.2.2.2.2.2.2.1 hb12 (dg tX7_costAt 8 rfl) ?_
  exact WP.iret rfl (dg tX7_costAt 9 rfl) ⟨_, rfl, h⟩
theorem sg_X7_beginThen_0 {T : Th} {M : Mm} {Q : Mm → Prop} {x0 : Nat} (h0 : isX7 T x0)
    (h : ∀ M1 : Mm, M1 = sI M (x0 + 18) 0 0 → WP T mX7_beginThen 9 [(0, .ref x0), (1, .int 0)] [] M1 (qv Q)) :
    WP T mX7_beginThen 0 [(0, .ref x0)] [] M (qv Q) := by
  refine WP.aload_n 0 (dg tX7_beginThen 0 rfl) rfl rfl ?_
  refine WP.getF fX7_62 h0.1 (dg tX7_beginThen 1 rfl) ?_
  refine WP.iconst (v := 0) (dg tX7_beginThen 2 rfl) (by decide) ?_
  refine WP.iconst (v := 0) (dg tX7_beginThen 3 rfl) (by decide) ?_
  refine WP.iastc (k := 0) h0.2.2.2.2.2.2.2.2.2.2.2.2.2.2.2.2.2.2.1 (by decide) (by decide) (dg tX7_beginThen 4 rfl) (fun M1 e_M1 => ?_)
  have h := h M1 e_M1
  refine WP.iconst (v := 0) (dg tX7_beginThen 5 rfl) (by decide) ?_
  refine WP.istore_n (L2 := [(1, .int 0), (0, .ref x0)]) (dg tX7_beginThen 6 rfl) rfl (by decide) rfl ?_
  refine WP.sub [1, 0] rfl ?_
  exact h
theorem sg_X7_beginThen_9 {T : Th} {M : Mm} {Q : Mm → Prop} {x0 : Nat} {x1 : Int32} (h0 : isX7 T x0)
    (h : (5 ≤ x1 → Q M) ∧ (¬ 5 ≤ x1 → vp_in x1 10 ∧ (vp_in (1 + x1) 31 ∧ (∀ M1 : Mm, M1 = sI M (x0 + 18) (1 + x1).toNatClampNeg (M.1 (x0 + 10) x1.toNatClampNeg) → vp_in x1 10 ∧ (WPi T mX7_costAt [.ref x0, .int (M1.1 (x0 + 10) x1.toNatClampNeg)] M1 (fun v3 M2 => vp_in x1 5 ∧ (vp_in (6 + x1) 31 ∧ (∀ M4 : Mm, M4 = sI M2 (x0 + 18) (6 + x1).toNatClampNeg (v3 + (M2.1 (x0 + 16) x1.toNatClampNeg)) → vp_in (11 + x1) 31 ∧ (∀ M5 : Mm, M5 = sI M4 (x0 + 18) (11 + x1).toNatClampNeg 0 → vp_in (16 + x1) 31 ∧ (∀ M6 : Mm, M6 = sI M5 (x0 + 18) (16 + x1).toNatClampNeg 0 → vp_in (21 + x1) 31 ∧ (∀ M7 : Mm, M7 = sI M6 (x0 + 18) (21 + x1).toNatClampNeg 0 → vp_in x1 10 ∧ (vp_in (26 + x1) 31 ∧ (∀ M8 : Mm, M8 = sI M7 (x0 + 18) (26 + x1).toNatClampNeg (M7.1 (x0 + 13) x1.toNatClampNeg) → ∀ v9 : Int32, v9 = x1 + 1 → WP T mX7_beginThen 9 [(0, .ref x0), (1, .int v9)] [] M8 (qv Q)))))))))))))) :
    WP T mX7_beginThen 9 [(0, .ref x0), (1, .int x1)] [] M (qv Q) := by
  refine WP.iload_n 1 (dg tX7_beginThen 7 rfl) rfl rfl ?_
  refine WP.iconst (v := 5) (dg tX7_beginThen 8 rfl) (by decide) ?_
  refine WP.icmp_ge (tgt := 105) (dg tX7_beginThen 9 rfl) (by decide) (fun z => ?_) (fun z => ?_)
  · replace h := h.1 z
    exact WP.vret rfl (dg tX7_beginThen 70 rfl) ⟨rfl, h⟩
  · replace h := h.2 z
    refine WP.aload_n 0 (dg tX7_beginThen 10 rfl) rfl rfl ?_
    refine WP.getF fX7_62 h0.1 (dg tX7_beginThen 11 rfl) ?_
    refine WP.iconst (v := 1) (dg tX7_beginThen 12 rfl) (by decide) ?_
    refine WP.iload_n 1 (dg tX7_beginThen 13 rfl) rfl rfl ?_
    refine WP.iadd (dg tX7_beginThen 14 rfl) ?_
    refine WP.aload_n 0 (dg tX7_beginThen 15 rfl) rfl rfl ?_
    refine WP.getF fX7_38 h0.1 (dg tX7_beginThen 16 rfl) ?_
    refine WP.iload_n 1 (dg tX7_beginThen 17 rfl) rfl rfl ?_
    obtain ⟨hb26, h⟩ := h
    refine WP.iald h0.2.2.2.2.2.2.2.2.2.2.1 hb26 (dg tX7_beginThen 18 rfl) ?_
    obtain ⟨hb27, h⟩ := h
    refine WP.iast h0.2.2.2.2.2.2.2.2.2.2.2.2.2.2.2.2.2.2.1 hb27 (dg tX7_beginThen 19 rfl) (fun M1 e_M1 => ?_)
    have h := h M1 e_M1
    refine WP.aload_n 0 (dg tX7_beginThen 20 rfl) rfl rfl ?_
    refine WP.getF fX7_62 h0.1 (dg tX7_beginThen 21 rfl) ?_
    refine WP.bipush (v := 6) (dg tX7_beginThen 22 rfl) (by decide) ?_
    refine WP.iload_n 1 (dg tX7_beginThen 23 rfl) rfl rfl ?_
    refine WP.iadd (dg tX7_beginThen 24 rfl) ?_
    refine WP.aload_n 0 (dg tX7_beginThen 25 rfl) rfl rfl ?_
    refine WP.aload_n 0 (dg tX7_beginThen 26 rfl) rfl rfl ?_
    refine WP.getF fX7_38 h0.1 (dg tX7_beginThen 27 rfl) ?_
    refine WP.iload_n 1 (dg tX7_beginThen 28 rfl) rfl rfl ?_
    obtain ⟨hb42, h⟩ := h
    refine WP.iald h0.2.2.2.2.2.2.2.2.2.2.1 hb42 (dg tX7_beginThen 29 rfl) ?_
    refine WP.callVi (As := [.int (M1.1 (x0 + 10) x1.toNatClampNeg)]) (st := [.int (6 + x1), .ref (x0 + 18)]) vX7_160 h0.1 rfl rfl ⟨Nat.le_of_ble_eq_true rfl, Nat.le_of_ble_eq_true rfl⟩ (Nat.le_of_ble_eq_true rfl) rfl (dg tX7_beginThen 30 rfl) h (fun v3 M2 h => ?_)
    refine WP.aload_n 0 (dg tX7_beginThen 31 rfl) rfl rfl ?_
    refine WP.getF fX7_56 h0.1 (dg tX7_beginThen 32 rfl) ?_
    refine WP.iload_n 1 (dg tX7_beginThen 33 rfl) rfl rfl ?_
    obtain ⟨hb51, h⟩ := h
    refine WP.iald h0.2.2.2.2.2.2.2.2.2.2.2.2.2.2.2.2.1 hb51 (dg tX7_beginThen 34 rfl) ?_
    refine WP.iadd (dg tX7_beginThen 35 rfl) ?_
    obtain ⟨hb53, h⟩ := h
    refine WP.iast h0.2.2.2.2.2.2.2.2.2.2.2.2.2.2.2.2.2.2.1 hb53 (dg tX7_beginThen 36 rfl) (fun M4 e_M4 => ?_)
    have h := h M4 e_M4
    refine WP.aload_n 0 (dg tX7_beginThen 37 rfl) rfl rfl ?_
    refine WP.getF fX7_62 h0.1 (dg tX7_beginThen 38 rfl) ?_
    refine WP.bipush (v := 11) (dg tX7_beginThen 39 rfl) (by decide) ?_
    refine WP.iload_n 1 (dg tX7_beginThen 40 rfl) rfl rfl ?_
    refine WP.iadd (dg tX7_beginThen 41 rfl) ?_
    refine WP.iconst (v := 0) (dg tX7_beginThen 42 rfl) (by decide) ?_
    obtain ⟨hb63, h⟩ := h
    refine WP.iast h0.2.2.2.2.2.2.2.2.2.2.2.2.2.2.2.2.2.2.1 hb63 (dg tX7_beginThen 43 rfl) (fun M5 e_M5 => ?_)
    have h := h M5 e_M5
    refine WP.aload_n 0 (dg tX7_beginThen 44 rfl) rfl rfl ?_
    refine WP.getF fX7_62 h0.1 (dg tX7_beginThen 45 rfl) ?_
    refine WP.bipush (v := 16) (dg tX7_beginThen 46 rfl) (by decide) ?_
    refine WP.iload_n 1 (dg tX7_beginThen 47 rfl) rfl rfl ?_
    refine WP.iadd (dg tX7_beginThen 48 rfl) ?_
    refine WP.iconst (v := 0) (dg tX7_beginThen 49 rfl) (by decide) ?_
    obtain ⟨hb73, h⟩ := h
    refine WP.iast h0.2.2.2.2.2.2.2.2.2.2.2.2.2.2.2.2.2.2.1 hb73 (dg tX7_beginThen 50 rfl) (fun M6 e_M6 => ?_)
    have h := h M6 e_M6
    refine WP.aload_n 0 (dg tX7_beginThen 51 rfl) rfl rfl ?_
    refine WP.getF fX7_62 h0.1 (dg tX7_beginThen 52 rfl) ?_
    refine WP.bipush (v := 21) (dg tX7_beginThen 53 rfl) (by decide) ?_
    refine WP.iload_n 1 (dg tX7_beginThen 54 rfl) rfl rfl ?_
    refine WP.iadd (dg tX7_beginThen 55 rfl) ?_
    refine WP.iconst (v := 0) (dg tX7_beginThen 56 rfl) (by decide) ?_
    obtain ⟨hb83, h⟩ := h
    refine WP.iast h0.2.2.2.2.2.2.2.2.2.2.2.2.2.2.2.2.2.2.1 hb83 (dg tX7_beginThen 57 rfl) (fun M7 e_M7 => ?_)
    have h := h M7 e_M7
    refine WP.aload_n 0 (dg tX7_beginThen 58 rfl) rfl rfl ?_
    refine WP.getF fX7_62 h0.1 (dg tX7_beginThen 59 rfl) ?_
    refine WP.bipush (v := 26) (dg tX7_beginThen 60 rfl) (by decide) ?_
    refine WP.iload_n 1 (dg tX7_beginThen 61 rfl) rfl rfl ?_
    refine WP.iadd (dg tX7_beginThen 62 rfl) ?_
    refine WP.aload_n 0 (dg tX7_beginThen 63 rfl) rfl rfl ?_
    refine WP.getF fX7_47 h0.1 (dg tX7_beginThen 64 rfl) ?_
    refine WP.iload_n 1 (dg tX7_beginThen 65 rfl) rfl rfl ?_
    obtain ⟨hb97, h⟩ := h
    refine WP.iald h0.2.2.2.2.2.2.2.2.2.2.2.2.2.1 hb97 (dg tX7_beginThen 66 rfl) ?_
    obtain ⟨hb98, h⟩ := h
    refine WP.iast h0.2.2.2.2.2.2.2.2.2.2.2.2.2.2.2.2.2.2.1 hb98 (dg tX7_beginThen 67 rfl) (fun M8 e_M8 => ?_)
    have h := h M8 e_M8
    obtain ⟨v9, e_v9⟩ : ∃ y : Int32, y = x1 + 1 := ⟨_, rfl⟩
    have h := h v9 e_v9
    refine WP.iinc (v := v9) (L2 := [(1, .int v9), (0, .ref x0)]) 1 (dg tX7_beginThen 68 rfl) rfl (by rw [e_v9]; rfl) (by decide) rfl ?_
    refine WP.goto (tgt := 9) (dg tX7_beginThen 69 rfl) (by decide) ?_
    refine WP.sub [1, 0] rfl ?_
    exact h
theorem sg_X7_begin_0 {T : Th} {M : Mm} {Q : Mm → Prop} {x0 : Nat} (h0 : isX7 T x0)
    (h : WPv T mX7_beginThen [.ref x0] M (fun M1 => WPv T mX7_toNow [.ref x0] M1 (fun M2 => Q M2))) :
    WP T mX7_begin 0 [(0, .ref x0)] [] M (qv Q) := by
  refine WP.aload_n 0 (dg tX7_begin 0 rfl) rfl rfl ?_
  refine WP.callVv (As := []) (st := []) vX7_164 h0.1 rfl rfl ⟨Nat.le_of_ble_eq_true rfl, Nat.le_of_ble_eq_true rfl⟩ (Nat.le_of_ble_eq_true rfl) rfl (dg tX7_begin 1 rfl) h (fun M1 h => ?_)
  refine WP.aload_n 0 (dg tX7_begin 2 rfl) rfl rfl ?_
  refine WP.callVv (As := []) (st := []) vX7_167 h0.1 rfl rfl ⟨Nat.le_of_ble_eq_true rfl, Nat.le_of_ble_eq_true rfl⟩ (Nat.le_of_ble_eq_true rfl) rfl (dg tX7_begin 3 rfl) h (fun M2 h => ?_)
  exact WP.vret rfl (dg tX7_begin 4 rfl) ⟨rfl, h⟩
theorem sg_X7_toNow_0 {T : Th} {M : Mm} {Q : Mm → Prop} {x0 : Nat} (h0 : isX7 T x0)
    (h : WP T mX7_toNow 2 [(0, .ref x0), (1, .int 0)] [] M (qv Q)) :
    WP T mX7_toNow 0 [(0, .ref x0)] [] M (qv Q) := by
  refine WP.iconst (v := 0) (dg tX7_toNow 0 rfl) (by decide) ?_
  refine WP.istore_n (L2 := [(1, .int 0), (0, .ref x0)]) (dg tX7_toNow 1 rfl) rfl (by decide) rfl ?_
  refine WP.sub [1, 0] rfl ?_
  exact h
theorem sg_X7_toNow_2 {T : Th} {M : Mm} {Q : Mm → Prop} {x0 : Nat} {x1 : Int32} (h0 : isX7 T x0)
    (h : (31 ≤ x1 → Q M) ∧ (¬ 31 ≤ x1 → vp_in x1 31 ∧ (vp_in x1 1026 ∧ (∀ M1 : Mm, M1 = sI M (x0 + 17) x1.toNatClampNeg (M.1 (x0 + 18) x1.toNatClampNeg) → ∀ v2 : Int32, v2 = x1 + 1 → WP T mX7_toNow 2 [(0, .ref x0), (1, .int v2)] [] M1 (qv Q))))) :
    WP T mX7_toNow 2 [(0, .ref x0), (1, .int x1)] [] M (qv Q) := by
  refine WP.iload_n 1 (dg tX7_toNow 2 rfl) rfl rfl ?_
  refine WP.bipush (v := 31) (dg tX7_toNow 3 rfl) (by decide) ?_
  refine WP.icmp_ge (tgt := 26) (dg tX7_toNow 4 rfl) (by decide) (fun z => ?_) (fun z => ?_)
  · replace h := h.1 z
    exact WP.vret rfl (dg tX7_toNow 15 rfl) ⟨rfl, h⟩
  · replace h := h.2 z
    refine WP.aload_n 0 (dg tX7_toNow 5 rfl) rfl rfl ?_
    refine WP.getF fX7_59 h0.1 (dg tX7_toNow 6 rfl) ?_
    refine WP.iload_n 1 (dg tX7_toNow 7 rfl) rfl rfl ?_
    refine WP.aload_n 0 (dg tX7_toNow 8 rfl) rfl rfl ?_
    refine WP.getF fX7_62 h0.1 (dg tX7_toNow 9 rfl) ?_
    refine WP.iload_n 1 (dg tX7_toNow 10 rfl) rfl rfl ?_
    obtain ⟨hb18, h⟩ := h
    refine WP.iald h0.2.2.2.2.2.2.2.2.2.2.2.2.2.2.2.2.2.2.1 hb18 (dg tX7_toNow 11 rfl) ?_
    obtain ⟨hb19, h⟩ := h
    refine WP.iast h0.2.2.2.2.2.2.2.2.2.2.2.2.2.2.2.2.2.1 hb19 (dg tX7_toNow 12 rfl) (fun M1 e_M1 => ?_)
    have h := h M1 e_M1
    obtain ⟨v2, e_v2⟩ : ∃ y : Int32, y = x1 + 1 := ⟨_, rfl⟩
    have h := h v2 e_v2
    refine WP.iinc (v := v2) (L2 := [(1, .int v2), (0, .ref x0)]) 1 (dg tX7_toNow 13 rfl) rfl (by rw [e_v2]; rfl) (by decide) rfl ?_
    refine WP.goto (tgt := 2) (dg tX7_toNow 14 rfl) (by decide) ?_
    refine WP.sub [1, 0] rfl ?_
    exact h
theorem sg_X7_toThen_0 {T : Th} {M : Mm} {Q : Mm → Prop} {x0 : Nat} (h0 : isX7 T x0)
    (h : WP T mX7_toThen 2 [(0, .ref x0), (1, .int 0)] [] M (qv Q)) :
    WP T mX7_toThen 0 [(0, .ref x0)] [] M (qv Q) := by
  refine WP.iconst (v := 0) (dg tX7_toThen 0 rfl) (by decide) ?_
  refine WP.istore_n (L2 := [(1, .int 0), (0, .ref x0)]) (dg tX7_toThen 1 rfl) rfl (by decide) rfl ?_
  refine WP.sub [1, 0] rfl ?_
  exact h
theorem sg_X7_toThen_2 {T : Th} {M : Mm} {Q : Mm → Prop} {x0 : Nat} {x1 : Int32} (h0 : isX7 T x0)
    (h : (31 ≤ x1 → Q M) ∧ (¬ 31 ≤ x1 → vp_in x1 1026 ∧ (vp_in x1 31 ∧ (∀ M1 : Mm, M1 = sI M (x0 + 18) x1.toNatClampNeg (M.1 (x0 + 17) x1.toNatClampNeg) → ∀ v2 : Int32, v2 = x1 + 1 → WP T mX7_toThen 2 [(0, .ref x0), (1, .int v2)] [] M1 (qv Q))))) :
    WP T mX7_toThen 2 [(0, .ref x0), (1, .int x1)] [] M (qv Q) := by
  refine WP.iload_n 1 (dg tX7_toThen 2 rfl) rfl rfl ?_
  refine WP.bipush (v := 31) (dg tX7_toThen 3 rfl) (by decide) ?_
  refine WP.icmp_ge (tgt := 26) (dg tX7_toThen 4 rfl) (by decide) (fun z => ?_) (fun z => ?_)
  · replace h := h.1 z
    exact WP.vret rfl (dg tX7_toThen 15 rfl) ⟨rfl, h⟩
  · replace h := h.2 z
    refine WP.aload_n 0 (dg tX7_toThen 5 rfl) rfl rfl ?_
    refine WP.getF fX7_62 h0.1 (dg tX7_toThen 6 rfl) ?_
    refine WP.iload_n 1 (dg tX7_toThen 7 rfl) rfl rfl ?_
    refine WP.aload_n 0 (dg tX7_toThen 8 rfl) rfl rfl ?_
    refine WP.getF fX7_59 h0.1 (dg tX7_toThen 9 rfl) ?_
    refine WP.iload_n 1 (dg tX7_toThen 10 rfl) rfl rfl ?_
    obtain ⟨hb18, h⟩ := h
    refine WP.iald h0.2.2.2.2.2.2.2.2.2.2.2.2.2.2.2.2.2.1 hb18 (dg tX7_toThen 11 rfl) ?_
    obtain ⟨hb19, h⟩ := h
    refine WP.iast h0.2.2.2.2.2.2.2.2.2.2.2.2.2.2.2.2.2.2.1 hb19 (dg tX7_toThen 12 rfl) (fun M1 e_M1 => ?_)
    have h := h M1 e_M1
    obtain ⟨v2, e_v2⟩ : ∃ y : Int32, y = x1 + 1 := ⟨_, rfl⟩
    have h := h v2 e_v2
    refine WP.iinc (v := v2) (L2 := [(1, .int v2), (0, .ref x0)]) 1 (dg tX7_toThen 13 rfl) rfl (by rw [e_v2]; rfl) (by decide) rfl ?_
    refine WP.goto (tgt := 2) (dg tX7_toThen 14 rfl) (by decide) ?_
    refine WP.sub [1, 0] rfl ?_
    exact h
theorem sg_X7_isWagon_0 {T : Th} {M : Mm} {Q : Int32 → Mm → Prop} {x0 : Nat} {x1 : Int32} (h0 : isX7 T x0)
    (h : WPi T mX7_in [.int x1, .int 0, .int ((M.1 (x0 + 7) 0) - 1)] M (fun v2 M1 => (v2 = 0 ∨ v2 = 1) ∧ Q v2 M1)) :
    WP T mX7_isWagon 0 [(0, .ref x0), (1, .int x1)] [] M (qi Q) := by
  refine WP.iload_n 1 (dg tX7_isWagon 0 rfl) rfl rfl ?_
  refine WP.iconst (v := 0) (dg tX7_isWagon 1 rfl) (by decide) ?_
  refine WP.aload_n 0 (dg tX7_isWagon 2 rfl) rfl rfl ?_
  refine WP.getF fX7_29 h0.1 (dg tX7_isWagon 3 rfl) ?_
  refine WP.iconst (v := 0) (dg tX7_isWagon 4 rfl) (by decide) ?_
  refine WP.ialdc (k := 0) h0.2.2.2.2.2.2.2.1 (by decide) (by decide) (dg tX7_isWagon 5 rfl) ?_
  refine WP.iconst (v := 1) (dg tX7_isWagon 6 rfl) (by decide) ?_
  refine WP.isub (dg tX7_isWagon 7 rfl) ?_
  refine WP.callSi (As := [.int x1, .int 0, .int ((M.1 (x0 + 7) 0) - 1)]) (st := []) vX7_88 rfl ⟨Nat.le_of_ble_eq_true rfl, Nat.le_of_ble_eq_true rfl⟩ (Nat.le_of_ble_eq_true rfl) rfl (dg tX7_isWagon 8 rfl) h (fun v2 M1 h => ?_)
  obtain ⟨hb13, h⟩ := h
  exact WP.zret rfl hb13 (dg tX7_isWagon 9 rfl) ⟨_, rfl, h⟩
theorem sg_X7_place_0 {T : Th} {M : Mm} {Q : Int32 → Mm → Prop} {x0 : Nat} {x1 : Int32} {x2 : Int32} (h0 : isX7 T x0)
    (h : WPi T mX7_in [.int x1, .int 0, .int ((M.1 (x0 + 2) 0) - 1)] M (fun v2 M1 => (¬ v2 = 0 → (¬ x2 = 0 → (¬ x2 = 1 → (¬ x2 = 2 → Q (-1) M1) ∧ (x2 = 2 → (¬ x1 = (M1.1 (x0 + 5) 0) → Q 0 M1) ∧ (x1 = (M1.1 (x0 + 5) 0) → Q 1 M1))) ∧ (x2 = 1 → Q (((M1.1 (x0 + 6) 0) >>> (x1 &&& 31)) &&& 1) M1)) ∧ (x2 = 0 → vp_in x1 24 ∧ (Q (M1.1 (x0 + 9) x1.toNatClampNeg) M1))) ∧ (v2 = 0 → Q (-1) M1))) :
    WP T mX7_place 0 [(0, .ref x0), (1, .int x1), (2, .int x2)] [] M (qi Q) := by
  refine WP.iload_n 1 (dg tX7_place 0 rfl) rfl rfl ?_
  refine WP.iconst (v := 0) (dg tX7_place 1 rfl) (by decide) ?_
  refine WP.aload_n 0 (dg tX7_place 2 rfl) rfl rfl ?_
  refine WP.getF fX7_13 h0.1 (dg tX7_place 3 rfl) ?_
  refine WP.iconst (v := 0) (dg tX7_place 4 rfl) (by decide) ?_
  refine WP.ialdc (k := 0) h0.2.2.1 (by decide) (by decide) (dg tX7_place 5 rfl) ?_
  refine WP.iconst (v := 1) (dg tX7_place 6 rfl) (by decide) ?_
  refine WP.isub (dg tX7_place 7 rfl) ?_
  refine WP.callSi (As := [.int x1, .int 0, .int ((M.1 (x0 + 2) 0) - 1)]) (st := []) vX7_88 rfl ⟨Nat.le_of_ble_eq_true rfl, Nat.le_of_ble_eq_true rfl⟩ (Nat.le_of_ble_eq_true rfl) rfl (dg tX7_place 8 rfl) h (fun v2 M1 h => ?_)
  refine WP.if_ne (tgt := 18) (dg tX7_place 9 rfl) (by decide) (fun z => ?_) (fun z => ?_)
  · replace h := h.1 z
    refine WP.iload_n 2 (dg tX7_place 12 rfl) rfl rfl ?_
    refine WP.if_ne (tgt := 31) (dg tX7_place 13 rfl) (by decide) (fun z => ?_) (fun z => ?_)
    · replace h := h.1 z
      refine WP.iload_n 2 (dg tX7_place 19 rfl) rfl rfl ?_
      refine WP.iconst (v := 1) (dg tX7_place 20 rfl) (by decide) ?_
      refine WP.icmp_ne (tgt := 49) (dg tX7_place 21 rfl) (by decide) (fun z => ?_) (fun z => ?_)
      · replace h := h.1 z
        refine WP.iload_n 2 (dg tX7_place 31 rfl) rfl rfl ?_
        refine WP.iconst (v := 2) (dg tX7_place 32 rfl) (by decide) ?_
        refine WP.icmp_ne (tgt := 72) (dg tX7_place 33 rfl) (by decide) (fun z => ?_) (fun z => ?_)
        · replace h := h.1 z
          refine WP.iconst (v := (-1)) (dg tX7_place 44 rfl) (by decide) ?_
          exact WP.iret rfl (dg tX7_place 45 rfl) ⟨_, rfl, h⟩
        · replace h := h.2 z
          refine WP.iload_n 1 (dg tX7_place 34 rfl) rfl rfl ?_
          refine WP.aload_n 0 (dg tX7_place 35 rfl) rfl rfl ?_
          refine WP.getF fX7_23 h0.1 (dg tX7_place 36 rfl) ?_
          refine WP.iconst (v := 0) (dg tX7_place 37 rfl) (by decide) ?_
          refine WP.ialdc (k := 0) h0.2.2.2.2.2.1 (by decide) (by decide) (dg tX7_place 38 rfl) ?_
          refine WP.icmp_ne (tgt := 68) (dg tX7_place 39 rfl) (by decide) (fun z => ?_) (fun z => ?_)
          · replace h := h.1 z
            refine WP.iconst (v := 0) (dg tX7_place 42 rfl) (by decide) ?_
            refine WP.goto (tgt := 73) (dg tX7_place 43 rfl) (by decide) ?_
            exact WP.iret rfl (dg tX7_place 45 rfl) ⟨_, rfl, h⟩
          · replace h := h.2 z
            refine WP.iconst (v := 1) (dg tX7_place 40 rfl) (by decide) ?_
            refine WP.goto (tgt := 73) (dg tX7_place 41 rfl) (by decide) ?_
            exact WP.iret rfl (dg tX7_place 45 rfl) ⟨_, rfl, h⟩
      · replace h := h.2 z
        refine WP.aload_n 0 (dg tX7_place 22 rfl) rfl rfl ?_
        refine WP.getF fX7_26 h0.1 (dg tX7_place 23 rfl) ?_
        refine WP.iconst (v := 0) (dg tX7_place 24 rfl) (by decide) ?_
        refine WP.ialdc (k := 0) h0.2.2.2.2.2.2.1 (by decide) (by decide) (dg tX7_place 25 rfl) ?_
        refine WP.iload_n 1 (dg tX7_place 26 rfl) rfl rfl ?_
        refine WP.ishr (dg tX7_place 27 rfl) ?_
        refine WP.iconst (v := 1) (dg tX7_place 28 rfl) (by decide) ?_
        refine WP.iand (dg tX7_place 29 rfl) ?_
        refine WP.goto (tgt := 73) (dg tX7_place 30 rfl) (by decide) ?_
        exact WP.iret rfl (dg tX7_place 45 rfl) ⟨_, rfl, h⟩
    · replace h := h.2 z
      refine WP.aload_n 0 (dg tX7_place 14 rfl) rfl rfl ?_
      refine WP.getF fX7_35 h0.1 (dg tX7_place 15 rfl) ?_
      refine WP.iload_n 1 (dg tX7_place 16 rfl) rfl rfl ?_
      obtain ⟨hb27, h⟩ := h
      refine WP.iald h0.2.2.2.2.2.2.2.2.2.1 hb27 (dg tX7_place 17 rfl) ?_
      refine WP.goto (tgt := 73) (dg tX7_place 18 rfl) (by decide) ?_
      exact WP.iret rfl (dg tX7_place 45 rfl) ⟨_, rfl, h⟩
  · replace h := h.2 z
    refine WP.iconst (v := (-1)) (dg tX7_place 10 rfl) (by decide) ?_
    exact WP.iret rfl (dg tX7_place 11 rfl) ⟨_, rfl, h⟩
theorem sg_X7_wagon_0 {T : Th} {M : Mm} {Q : Int32 → Mm → Prop} {x0 : Nat} {x1 : Int32} {x2 : Int32} (h0 : isX7 T x0)
    (h : WPi T mX7_isWagon [.ref x0, .int x1] M (fun v2 M1 => (¬ v2 = 0 → (x2 = 0 → vp_in (1 + x1) 1026 ∧ (Q (M1.1 (x0 + 17) (1 + x1).toNatClampNeg) M1)) ∧ (x2 = 1 → vp_in x1 5 ∧ (Q (M1.1 (x0 + 16) x1.toNatClampNeg) M1)) ∧ (x2 = 2 → vp_in x1 10 ∧ (Q (M1.1 (x0 + 12) x1.toNatClampNeg) M1)) ∧ (x2 = 3 → vp_in (26 + x1) 1026 ∧ (Q (M1.1 (x0 + 17) (26 + x1).toNatClampNeg) M1)) ∧ (x2 = 4 → vp_in (6 + x1) 1026 ∧ (Q (M1.1 (x0 + 17) (6 + x1).toNatClampNeg) M1)) ∧ (x2 = 5 → vp_in (11 + x1) 1026 ∧ (Q (M1.1 (x0 + 17) (11 + x1).toNatClampNeg) M1)) ∧ (x2 = 6 → vp_in (16 + x1) 1026 ∧ (Q (M1.1 (x0 + 17) (16 + x1).toNatClampNeg) M1)) ∧ (x2 = 7 → vp_in (21 + x1) 1026 ∧ (Q (M1.1 (x0 + 17) (21 + x1).toNatClampNeg) M1)) ∧ (¬ x2 = 0 ∧ ¬ x2 = 1 ∧ ¬ x2 = 2 ∧ ¬ x2 = 3 ∧ ¬ x2 = 4 ∧ ¬ x2 = 5 ∧ ¬ x2 = 6 ∧ ¬ x2 = 7 → Q (-1) M1)) ∧ (v2 = 0 → Q (-1) M1))) :
    WP T mX7_wagon 0 [(0, .ref x0), (1, .int x1), (2, .int x2)] [] M (qi Q) := by
  refine WP.aload_n 0 (dg tX7_wagon 0 rfl) rfl rfl ?_
  refine WP.iload_n 1 (dg tX7_wagon 1 rfl) rfl rfl ?_
  refine WP.callVi (As := [.int x1]) (st := []) vX7_170 h0.1 rfl rfl ⟨Nat.le_of_ble_eq_true rfl, Nat.le_of_ble_eq_true rfl⟩ (Nat.le_of_ble_eq_true rfl) rfl (dg tX7_wagon 2 rfl) h (fun v2 M1 h => ?_)
  refine WP.if_ne (tgt := 10) (dg tX7_wagon 3 rfl) (by decide) (fun z => ?_) (fun z => ?_)
  · replace h := h.1 z
    refine WP.iload_n 2 (dg tX7_wagon 6 rfl) rfl rfl ?_
    rcases tabcase x2 0 8 with hq | ⟨k, hk, hq⟩
    · replace h := h.2.2.2.2.2.2.2.2 ⟨fun e => by rw [e] at hq; revert hq; decide, fun e => by rw [e] at hq; revert hq; decide, fun e => by rw [e] at hq; revert hq; decide, fun e => by rw [e] at hq; revert hq; decide, fun e => by rw [e] at hq; revert hq; decide, fun e => by rw [e] at hq; revert hq; decide, fun e => by rw [e] at hq; revert hq; decide, fun e => by rw [e] at hq; revert hq; decide⟩
      refine WP.tabOut (tgt := 129) (dg tX7_wagon 7 rfl) (by rcases hq with hq | hq <;> omega) (by decide) ?_
      refine WP.iconst (v := (-1)) (dg tX7_wagon 60 rfl) (by decide) ?_
      exact WP.iret rfl (dg tX7_wagon 61 rfl) ⟨_, rfl, h⟩
    · rcases (show k = 0 ∨ k = 1 ∨ k = 2 ∨ k = 3 ∨ k = 4 ∨ k = 5 ∨ k = 6 ∨ k = 7 by omega) with rfl | rfl | rfl | rfl | rfl | rfl | rfl | rfl
      · have he : x2 = 0 := Int32.toInt_inj.mp (by rw [hq]; rfl)
        replace h := h.1 (he)
        refine WP.tabIn (off := 45) (tgt := 56) (dg tX7_wagon 7 rfl) (by omega) (by omega) (by rw [hq]; rfl) (by decide) ?_
        refine WP.aload_n 0 (dg tX7_wagon 8 rfl) rfl rfl ?_
        refine WP.getF fX7_59 h0.1 (dg tX7_wagon 9 rfl) ?_
        refine WP.iconst (v := 1) (dg tX7_wagon 10 rfl) (by decide) ?_
        refine WP.iload_n 1 (dg tX7_wagon 11 rfl) rfl rfl ?_
        refine WP.iadd (dg tX7_wagon 12 rfl) ?_
        obtain ⟨hb63, h⟩ := h
        refine WP.iald h0.2.2.2.2.2.2.2.2.2.2.2.2.2.2.2.2.2.1 hb63 (dg tX7_wagon 13 rfl) ?_
        exact WP.iret rfl (dg tX7_wagon 14 rfl) ⟨_, rfl, h⟩
      · have he : x2 = 1 := Int32.toInt_inj.mp (by rw [hq]; rfl)
        replace h := h.2.1 (he)
        refine WP.tabIn (off := 54) (tgt := 65) (dg tX7_wagon 7 rfl) (by omega) (by omega) (by rw [hq]; rfl) (by decide) ?_
        refine WP.aload_n 0 (dg tX7_wagon 15 rfl) rfl rfl ?_
        refine WP.getF fX7_56 h0.1 (dg tX7_wagon 16 rfl) ?_
        refine WP.iload_n 1 (dg tX7_wagon 17 rfl) rfl rfl ?_
        obtain ⟨hb70, h⟩ := h
        refine WP.iald h0.2.2.2.2.2.2.2.2.2.2.2.2.2.2.2.2.1 hb70 (dg tX7_wagon 18 rfl) ?_
        exact WP.iret rfl (dg tX7_wagon 19 rfl) ⟨_, rfl, h⟩
      · have he : x2 = 2 := Int32.toInt_inj.mp (by rw [hq]; rfl)
        replace h := h.2.2.1 (he)
        refine WP.tabIn (off := 61) (tgt := 72) (dg tX7_wagon 7 rfl) (by omega) (by omega) (by rw [hq]; rfl) (by decide) ?_
        refine WP.aload_n 0 (dg tX7_wagon 20 rfl) rfl rfl ?_
        refine WP.getF fX7_44 h0.1 (dg tX7_wagon 21 rfl) ?_
        refine WP.iload_n 1 (dg tX7_wagon 22 rfl) rfl rfl ?_
        obtain ⟨hb77, h⟩ := h
        refine WP.iald h0.2.2.2.2.2.2.2.2.2.2.2.2.1 hb77 (dg tX7_wagon 23 rfl) ?_
        exact WP.iret rfl (dg tX7_wagon 24 rfl) ⟨_, rfl, h⟩
      · have he : x2 = 3 := Int32.toInt_inj.mp (by rw [hq]; rfl)
        replace h := h.2.2.2.1 (he)
        refine WP.tabIn (off := 68) (tgt := 79) (dg tX7_wagon 7 rfl) (by omega) (by omega) (by rw [hq]; rfl) (by decide) ?_
        refine WP.aload_n 0 (dg tX7_wagon 25 rfl) rfl rfl ?_
        refine WP.getF fX7_59 h0.1 (dg tX7_wagon 26 rfl) ?_
        refine WP.bipush (v := 26) (dg tX7_wagon 27 rfl) (by decide) ?_
        refine WP.iload_n 1 (dg tX7_wagon 28 rfl) rfl rfl ?_
        refine WP.iadd (dg tX7_wagon 29 rfl) ?_
        obtain ⟨hb87, h⟩ := h
        refine WP.iald h0.2.2.2.2.2.2.2.2.2.2.2.2.2.2.2.2.2.1 hb87 (dg tX7_wagon 30 rfl) ?_
        exact WP.iret rfl (dg tX7_wagon 31 rfl) ⟨_, rfl, h⟩
      · have he : x2 = 4 := Int32.toInt_inj.mp (by rw [hq]; rfl)
        replace h := h.2.2.2.2.1 (he)
        refine WP.tabIn (off := 78) (tgt := 89) (dg tX7_wagon 7 rfl) (by omega) (by omega) (by rw [hq]; rfl) (by decide) ?_
        refine WP.aload_n 0 (dg tX7_wagon 32 rfl) rfl rfl ?_
        refine WP.getF fX7_59 h0.1 (dg tX7_wagon 33 rfl) ?_
        refine WP.bipush (v := 6) (dg tX7_wagon 34 rfl) (by decide) ?_
        refine WP.iload_n 1 (dg tX7_wagon 35 rfl) rfl rfl ?_
        refine WP.iadd (dg tX7_wagon 36 rfl) ?_
        obtain ⟨hb97, h⟩ := h
        refine WP.iald h0.2.2.2.2.2.2.2.2.2.2.2.2.2.2.2.2.2.1 hb97 (dg tX7_wagon 37 rfl) ?_
        exact WP.iret rfl (dg tX7_wagon 38 rfl) ⟨_, rfl, h⟩
      · have he : x2 = 5 := Int32.toInt_inj.mp (by rw [hq]; rfl)
        replace h := h.2.2.2.2.2.1 (he)
        refine WP.tabIn (off := 88) (tgt := 99) (dg tX7_wagon 7 rfl) (by omega) (by omega) (by rw [hq]; rfl) (by decide) ?_
        refine WP.aload_n 0 (dg tX7_wagon 39 rfl) rfl rfl ?_
        refine WP.getF fX7_59 h0.1 (dg tX7_wagon 40 rfl) ?_
        refine WP.bipush (v := 11) (dg tX7_wagon 41 rfl) (by decide) ?_
        refine WP.iload_n 1 (dg tX7_wagon 42 rfl) rfl rfl ?_
        refine WP.iadd (dg tX7_wagon 43 rfl) ?_
        obtain ⟨hb107, h⟩ := h
        refine WP.iald h0.2.2.2.2.2.2.2.2.2.2.2.2.2.2.2.2.2.1 hb107 (dg tX7_wagon 44 rfl) ?_
        exact WP.iret rfl (dg tX7_wagon 45 rfl) ⟨_, rfl, h⟩
      · have he : x2 = 6 := Int32.toInt_inj.mp (by rw [hq]; rfl)
        replace h := h.2.2.2.2.2.2.1 (he)
        refine WP.tabIn (off := 98) (tgt := 109) (dg tX7_wagon 7 rfl) (by omega) (by omega) (by rw [hq]; rfl) (by decide) ?_
        refine WP.aload_n 0 (dg tX7_wagon 46 rfl) rfl rfl ?_
        refine WP.getF fX7_59 h0.1 (dg tX7_wagon 47 rfl) ?_
        refine WP.bipush (v := 16) (dg tX7_wagon 48 rfl) (by decide) ?_
        refine WP.iload_n 1 (dg tX7_wagon 49 rfl) rfl rfl ?_
        refine WP.iadd (dg tX7_wagon 50 rfl) ?_
        obtain ⟨hb117, h⟩ := h
        refine WP.iald h0.2.2.2.2.2.2.2.2.2.2.2.2.2.2.2.2.2.1 hb117 (dg tX7_wagon 51 rfl) ?_
        exact WP.iret rfl (dg tX7_wagon 52 rfl) ⟨_, rfl, h⟩
      · have he : x2 = 7 := Int32.toInt_inj.mp (by rw [hq]; rfl)
        replace h := h.2.2.2.2.2.2.2.1 (he)
        refine WP.tabIn (off := 108) (tgt := 119) (dg tX7_wagon 7 rfl) (by omega) (by omega) (by rw [hq]; rfl) (by decide) ?_
        refine WP.aload_n 0 (dg tX7_wagon 53 rfl) rfl rfl ?_
        refine WP.getF fX7_59 h0.1 (dg tX7_wagon 54 rfl) ?_
        refine WP.bipush (v := 21) (dg tX7_wagon 55 rfl) (by decide) ?_
        refine WP.iload_n 1 (dg tX7_wagon 56 rfl) rfl rfl ?_
        refine WP.iadd (dg tX7_wagon 57 rfl) ?_
        obtain ⟨hb127, h⟩ := h
        refine WP.iald h0.2.2.2.2.2.2.2.2.2.2.2.2.2.2.2.2.2.1 hb127 (dg tX7_wagon 58 rfl) ?_
        exact WP.iret rfl (dg tX7_wagon 59 rfl) ⟨_, rfl, h⟩
  · replace h := h.2 z
    refine WP.iconst (v := (-1)) (dg tX7_wagon 4 rfl) (by decide) ?_
    exact WP.iret rfl (dg tX7_wagon 5 rfl) ⟨_, rfl, h⟩
theorem sg_X7_sunAt_0 {T : Th} {M : Mm} {Q : Int32 → Mm → Prop} {x0 : Nat} {x1 : Int32} (h0 : isX7 T x0)
    (h : ¬ (M.1 (x0 + 3) 0) = 0 ∧ (Q ((x1 / (M.1 (x0 + 3) 0)) - (M.1 (x0 + 4) 0)) M)) :
    WP T mX7_sunAt 0 [(0, .ref x0), (1, .int x1)] [] M (qi Q) := by
  refine WP.iload_n 1 (dg tX7_sunAt 0 rfl) rfl rfl ?_
  refine WP.aload_n 0 (dg tX7_sunAt 1 rfl) rfl rfl ?_
  refine WP.getF fX7_17 h0.1 (dg tX7_sunAt 2 rfl) ?_
  refine WP.iconst (v := 0) (dg tX7_sunAt 3 rfl) (by decide) ?_
  refine WP.ialdc (k := 0) h0.2.2.2.1 (by decide) (by decide) (dg tX7_sunAt 4 rfl) ?_
  obtain ⟨hz7, h⟩ := h
  refine WP.idiv (dg tX7_sunAt 5 rfl) hz7 ?_
  refine WP.aload_n 0 (dg tX7_sunAt 6 rfl) rfl rfl ?_
  refine WP.getF fX7_20 h0.1 (dg tX7_sunAt 7 rfl) ?_
  refine WP.iconst (v := 0) (dg tX7_sunAt 8 rfl) (by decide) ?_
  refine WP.ialdc (k := 0) h0.2.2.2.2.1 (by decide) (by decide) (dg tX7_sunAt 9 rfl) ?_
  refine WP.isub (dg tX7_sunAt 10 rfl) ?_
  exact WP.iret rfl (dg tX7_sunAt 11 rfl) ⟨_, rfl, h⟩
theorem sg_X7_sun_0 {T : Th} {M : Mm} {Q : Int32 → Mm → Prop} {x0 : Nat} {x1 : Int32} (h0 : isX7 T x0)
    (h : WPi T mX7_in [.int x1, .int 0, .int 1100] M (fun v2 M1 => (v2 = 0 → Q (-1000000) M1) ∧ (¬ v2 = 0 → WPi T mX7_sunAt [.ref x0, .int x1] M1 (fun v4 M3 => Q v4 M3)))) :
    WP T mX7_sun 0 [(0, .ref x0), (1, .int x1)] [] M (qi Q) := by
  refine WP.iload_n 1 (dg tX7_sun 0 rfl) rfl rfl ?_
  refine WP.iconst (v := 0) (dg tX7_sun 1 rfl) (by decide) ?_
  refine WP.sipush (v := 1100) (dg tX7_sun 2 rfl) (by decide) ?_
  refine WP.callSi (As := [.int x1, .int 0, .int 1100]) (st := []) vX7_88 rfl ⟨Nat.le_of_ble_eq_true rfl, Nat.le_of_ble_eq_true rfl⟩ (Nat.le_of_ble_eq_true rfl) rfl (dg tX7_sun 3 rfl) h (fun v2 M1 h => ?_)
  refine WP.if_eq (tgt := 19) (dg tX7_sun 4 rfl) (by decide) (fun z => ?_) (fun z => ?_)
  · replace h := h.1 z
    refine WP.ldc (v := (-1000000)) kX7_176 (dg tX7_sun 9 rfl) ?_
    exact WP.iret rfl (dg tX7_sun 10 rfl) ⟨_, rfl, h⟩
  · replace h := h.2 z
    refine WP.aload_n 0 (dg tX7_sun 5 rfl) rfl rfl ?_
    refine WP.iload_n 1 (dg tX7_sun 6 rfl) rfl rfl ?_
    refine WP.callVi (As := [.int x1]) (st := []) vX7_173 h0.1 rfl rfl ⟨Nat.le_of_ble_eq_true rfl, Nat.le_of_ble_eq_true rfl⟩ (Nat.le_of_ble_eq_true rfl) rfl (dg tX7_sun 7 rfl) h (fun v4 M3 h => ?_)
    refine WP.goto (tgt := 21) (dg tX7_sun 8 rfl) (by decide) ?_
    exact WP.iret rfl (dg tX7_sun 10 rfl) ⟨_, rfl, h⟩
theorem sg_X7_caughtThen_0 {T : Th} {M : Mm} {Q : Int32 → Mm → Prop} {x0 : Nat} (h0 : isX7 T x0)
    (h : WP T mX7_caughtThen 4 [(0, .ref x0), (1, .int 0), (2, .int 0)] [] M (qi Q)) :
    WP T mX7_caughtThen 0 [(0, .ref x0)] [] M (qi Q) := by
  refine WP.iconst (v := 0) (dg tX7_caughtThen 0 rfl) (by decide) ?_
  refine WP.istore_n (L2 := [(1, .int 0), (0, .ref x0)]) (dg tX7_caughtThen 1 rfl) rfl (by decide) rfl ?_
  refine WP.iconst (v := 0) (dg tX7_caughtThen 2 rfl) (by decide) ?_
  refine WP.istore_n (L2 := [(2, .int 0), (1, .int 0), (0, .ref x0)]) (dg tX7_caughtThen 3 rfl) rfl (by decide) rfl ?_
  refine WP.sub [2, 1, 0] rfl ?_
  exact h
theorem sg_X7_caughtThen_4 {T : Th} {M : Mm} {Q : Int32 → Mm → Prop} {x0 : Nat} {x1 : Int32} {x2 : Int32} (h0 : isX7 T x0)
    (h : ((M.1 (x0 + 7) 0) ≤ x2 → Q x1 M) ∧ (¬ (M.1 (x0 + 7) 0) ≤ x2 → vp_in (21 + x2) 31 ∧ (∀ v1 : Int32, v1 = x1 ||| ((M.1 (x0 + 18) (21 + x2).toNatClampNeg) <<< (x2 &&& 31)) → ∀ v2 : Int32, v2 = x2 + 1 → WP T mX7_caughtThen 4 [(0, .ref x0), (1, .int v1), (2, .int v2)] [] M (qi Q)))) :
    WP T mX7_caughtThen 4 [(0, .ref x0), (1, .int x1), (2, .int x2)] [] M (qi Q) := by
  refine WP.iload_n 2 (dg tX7_caughtThen 4 rfl) rfl rfl ?_
  refine WP.aload_n 0 (dg tX7_caughtThen 5 rfl) rfl rfl ?_
  refine WP.getF fX7_29 h0.1 (dg tX7_caughtThen 6 rfl) ?_
  refine WP.iconst (v := 0) (dg tX7_caughtThen 7 rfl) (by decide) ?_
  refine WP.ialdc (k := 0) h0.2.2.2.2.2.2.2.1 (by decide) (by decide) (dg tX7_caughtThen 8 rfl) ?_
  refine WP.icmp_ge (tgt := 34) (dg tX7_caughtThen 9 rfl) (by decide) (fun z => ?_) (fun z => ?_)
  · replace h := h.1 z
    refine WP.iload_n 1 (dg tX7_caughtThen 23 rfl) rfl rfl ?_
    exact WP.iret rfl (dg tX7_caughtThen 24 rfl) ⟨_, rfl, h⟩
  · replace h := h.2 z
    refine WP.iload_n 1 (dg tX7_caughtThen 10 rfl) rfl rfl ?_
    refine WP.aload_n 0 (dg tX7_caughtThen 11 rfl) rfl rfl ?_
    refine WP.getF fX7_62 h0.1 (dg tX7_caughtThen 12 rfl) ?_
    refine WP.bipush (v := 21) (dg tX7_caughtThen 13 rfl) (by decide) ?_
    refine WP.iload_n 2 (dg tX7_caughtThen 14 rfl) rfl rfl ?_
    refine WP.iadd (dg tX7_caughtThen 15 rfl) ?_
    obtain ⟨hb23, h⟩ := h
    refine WP.iald h0.2.2.2.2.2.2.2.2.2.2.2.2.2.2.2.2.2.2.1 hb23 (dg tX7_caughtThen 16 rfl) ?_
    refine WP.iload_n 2 (dg tX7_caughtThen 17 rfl) rfl rfl ?_
    refine WP.ishl (dg tX7_caughtThen 18 rfl) ?_
    refine WP.ior (dg tX7_caughtThen 19 rfl) ?_
    refine WP.topi (fun v1 e_v1 => ?_)
    have h := h v1 e_v1
    refine WP.istore_n (L2 := [(1, .int v1), (0, .ref x0), (2, .int x2)]) (dg tX7_caughtThen 20 rfl) rfl (by decide) rfl ?_
    obtain ⟨v2, e_v2⟩ : ∃ y : Int32, y = x2 + 1 := ⟨_, rfl⟩
    have h := h v2 e_v2
    refine WP.iinc (v := v2) (L2 := [(2, .int v2), (1, .int v1), (0, .ref x0)]) 2 (dg tX7_caughtThen 21 rfl) rfl (by rw [e_v2]; rfl) (by decide) rfl ?_
    refine WP.goto (tgt := 4) (dg tX7_caughtThen 22 rfl) (by decide) ?_
    refine WP.sub [2, 1, 0] rfl ?_
    exact h
theorem sg_X7_manyOf_0 {T : Th} {M : Mm} {Q : Int32 → Mm → Prop} {x0 : Int32} 
    (h : WP T mX7_manyOf 4 [(0, .int x0), (1, .int 0), (2, .int 0)] [] M (qi Q)) :
    WP T mX7_manyOf 0 [(0, .int x0)] [] M (qi Q) := by
  refine WP.iconst (v := 0) (dg tX7_manyOf 0 rfl) (by decide) ?_
  refine WP.istore_n (L2 := [(1, .int 0), (0, .int x0)]) (dg tX7_manyOf 1 rfl) rfl (by decide) rfl ?_
  refine WP.iconst (v := 0) (dg tX7_manyOf 2 rfl) (by decide) ?_
  refine WP.istore_n (L2 := [(2, .int 0), (1, .int 0), (0, .int x0)]) (dg tX7_manyOf 3 rfl) rfl (by decide) rfl ?_
  refine WP.sub [2, 1, 0] rfl ?_
  exact h
theorem sg_X7_manyOf_4 {T : Th} {M : Mm} {Q : Int32 → Mm → Prop} {x0 : Int32} {x1 : Int32} {x2 : Int32} 
    (h : (5 ≤ x2 → Q x1 M) ∧ (¬ 5 ≤ x2 → ∀ v1 : Int32, v1 = x1 + ((x0 >>> (x2 &&& 31)) &&& 1) → ∀ v2 : Int32, v2 = x2 + 1 → WP T mX7_manyOf 4 [(0, .int x0), (1, .int v1), (2, .int v2)] [] M (qi Q))) :
    WP T mX7_manyOf 4 [(0, .int x0), (1, .int x1), (2, .int x2)] [] M (qi Q) := by
  refine WP.iload_n 2 (dg tX7_manyOf 4 rfl) rfl rfl ?_
  refine WP.iconst (v := 5) (dg tX7_manyOf 5 rfl) (by decide) ?_
  refine WP.icmp_ge (tgt := 23) (dg tX7_manyOf 6 rfl) (by decide) (fun z => ?_) (fun z => ?_)
  · replace h := h.1 z
    refine WP.iload_n 1 (dg tX7_manyOf 17 rfl) rfl rfl ?_
    exact WP.iret rfl (dg tX7_manyOf 18 rfl) ⟨_, rfl, h⟩
  · replace h := h.2 z
    refine WP.iload_n 1 (dg tX7_manyOf 7 rfl) rfl rfl ?_
    refine WP.iload_n 0 (dg tX7_manyOf 8 rfl) rfl rfl ?_
    refine WP.iload_n 2 (dg tX7_manyOf 9 rfl) rfl rfl ?_
    refine WP.ishr (dg tX7_manyOf 10 rfl) ?_
    refine WP.iconst (v := 1) (dg tX7_manyOf 11 rfl) (by decide) ?_
    refine WP.iand (dg tX7_manyOf 12 rfl) ?_
    refine WP.iadd (dg tX7_manyOf 13 rfl) ?_
    refine WP.topi (fun v1 e_v1 => ?_)
    have h := h v1 e_v1
    refine WP.istore_n (L2 := [(1, .int v1), (0, .int x0), (2, .int x2)]) (dg tX7_manyOf 14 rfl) rfl (by decide) rfl ?_
    obtain ⟨v2, e_v2⟩ : ∃ y : Int32, y = x2 + 1 := ⟨_, rfl⟩
    have h := h v2 e_v2
    refine WP.iinc (v := v2) (L2 := [(2, .int v2), (1, .int v1), (0, .int x0)]) 2 (dg tX7_manyOf 15 rfl) rfl (by rw [e_v2]; rfl) (by decide) rfl ?_
    refine WP.goto (tgt := 4) (dg tX7_manyOf 16 rfl) (by decide) ?_
    refine WP.sub [2, 1, 0] rfl ?_
    exact h
theorem sg_X7_now_0 {T : Th} {M : Mm} {Q : Int32 → Mm → Prop} {x0 : Nat} {x1 : Int32} (h0 : isX7 T x0)
    (h : WP T mX7_now 4 [(0, .ref x0), (1, .int x1), (2, .int 0), (3, .int 0)] [] M (qi Q)) :
    WP T mX7_now 0 [(0, .ref x0), (1, .int x1)] [] M (qi Q) := by
  refine WP.iconst (v := 0) (dg tX7_now 0 rfl) (by decide) ?_
  refine WP.istore_n (L2 := [(2, .int 0), (0, .ref x0), (1, .int x1)]) (dg tX7_now 1 rfl) rfl (by decide) rfl ?_
  refine WP.iconst (v := 0) (dg tX7_now 2 rfl) (by decide) ?_
  refine WP.istore_n (L2 := [(3, .int 0), (2, .int 0), (0, .ref x0), (1, .int x1)]) (dg tX7_now 3 rfl) rfl (by decide) rfl ?_
  refine WP.sub [2, 3, 1, 0] rfl ?_
  exact h
theorem sg_X7_now_4 {T : Th} {M : Mm} {Q : Int32 → Mm → Prop} {x0 : Nat} {x1 : Int32} {x2 : Int32} {x3 : Int32} (h0 : isX7 T x0)
    (h : ((M.1 (x0 + 7) 0) ≤ x3 → WPv T mX7_toThen [.ref x0] M (fun M1 => (x1 = 0 → Q (M1.1 (x0 + 17) 0) M1) ∧ (x1 = 1 → Q (M1.1 (x0 + 2) 0) M1) ∧ (x1 = 2 → Q (M1.1 (x0 + 3) 0) M1) ∧ (x1 = 3 → Q (M1.1 (x0 + 4) 0) M1) ∧ (x1 = 4 → WPi T mX7_caughtThen [.ref x0] M1 (fun v3 M2 => Q v3 M2)) ∧ (x1 = 5 → Q x2 M1) ∧ (¬ x1 = 0 ∧ ¬ x1 = 1 ∧ ¬ x1 = 2 ∧ ¬ x1 = 3 ∧ ¬ x1 = 4 ∧ ¬ x1 = 5 → Q (-1) M1))) ∧ (¬ (M.1 (x0 + 7) 0) ≤ x3 → vp_in (16 + x3) 1026 ∧ (vp_in x3 10 ∧ (((M.1 (x0 + 17) (16 + x3).toNatClampNeg) < (M.1 (x0 + 12) x3.toNatClampNeg) → ∀ v1 : Int32, v1 = x2 ||| 0 → ∀ v2 : Int32, v2 = x3 + 1 → WP T mX7_now 4 [(0, .ref x0), (1, .int x1), (2, .int v1), (3, .int v2)] [] M (qi Q)) ∧ (¬ (M.1 (x0 + 17) (16 + x3).toNatClampNeg) < (M.1 (x0 + 12) x3.toNatClampNeg) → ∀ v1 : Int32, v1 = x2 ||| (1 <<< (x3 &&& 31)) → ∀ v2 : Int32, v2 = x3 + 1 → WP T mX7_now 4 [(0, .ref x0), (1, .int x1), (2, .int v1), (3, .int v2)] [] M (qi Q)))))) :
    WP T mX7_now 4 [(0, .ref x0), (1, .int x1), (2, .int x2), (3, .int x3)] [] M (qi Q) := by
  refine WP.iload_n 3 (dg tX7_now 4 rfl) rfl rfl ?_
  refine WP.aload_n 0 (dg tX7_now 5 rfl) rfl rfl ?_
  refine WP.getF fX7_29 h0.1 (dg tX7_now 6 rfl) ?_
  refine WP.iconst (v := 0) (dg tX7_now 7 rfl) (by decide) ?_
  refine WP.ialdc (k := 0) h0.2.2.2.2.2.2.2.1 (by decide) (by decide) (dg tX7_now 8 rfl) ?_
  refine WP.icmp_ge (tgt := 48) (dg tX7_now 9 rfl) (by decide) (fun z => ?_) (fun z => ?_)
  · replace h := h.1 z
    refine WP.aload_n 0 (dg tX7_now 31 rfl) rfl rfl ?_
    refine WP.callVv (As := []) (st := []) vX7_177 h0.1 rfl rfl ⟨Nat.le_of_ble_eq_true rfl, Nat.le_of_ble_eq_true rfl⟩ (Nat.le_of_ble_eq_true rfl) rfl (dg tX7_now 32 rfl) h (fun M1 h => ?_)
    refine WP.iload_n 1 (dg tX7_now 33 rfl) rfl rfl ?_
    rcases tabcase x1 0 6 with hq | ⟨k, hk, hq⟩
    · replace h := h.2.2.2.2.2.2 ⟨fun e => by rw [e] at hq; revert hq; decide, fun e => by rw [e] at hq; revert hq; decide, fun e => by rw [e] at hq; revert hq; decide, fun e => by rw [e] at hq; revert hq; decide, fun e => by rw [e] at hq; revert hq; decide, fun e => by rw [e] at hq; revert hq; decide⟩
      refine WP.tabOut (tgt := 127) (dg tX7_now 34 rfl) (by rcases hq with hq | hq <;> omega) (by decide) ?_
      refine WP.iconst (v := (-1)) (dg tX7_now 60 rfl) (by decide) ?_
      exact WP.iret rfl (dg tX7_now 61 rfl) ⟨_, rfl, h⟩
    · rcases (show k = 0 ∨ k = 1 ∨ k = 2 ∨ k = 3 ∨ k = 4 ∨ k = 5 by omega) with rfl | rfl | rfl | rfl | rfl | rfl
      · have he : x1 = 0 := Int32.toInt_inj.mp (by rw [hq]; rfl)
        replace h := h.1 (he)
        refine WP.tabIn (off := 39) (tgt := 92) (dg tX7_now 34 rfl) (by omega) (by omega) (by rw [hq]; rfl) (by decide) ?_
        refine WP.aload_n 0 (dg tX7_now 35 rfl) rfl rfl ?_
        refine WP.getF fX7_59 h0.1 (dg tX7_now 36 rfl) ?_
        refine WP.iconst (v := 0) (dg tX7_now 37 rfl) (by decide) ?_
        refine WP.ialdc (k := 0) h0.2.2.2.2.2.2.2.2.2.2.2.2.2.2.2.2.2.1 (by decide) (by decide) (dg tX7_now 38 rfl) ?_
        exact WP.iret rfl (dg tX7_now 39 rfl) ⟨_, rfl, h⟩
      · have he : x1 = 1 := Int32.toInt_inj.mp (by rw [hq]; rfl)
        replace h := h.2.1 (he)
        refine WP.tabIn (off := 46) (tgt := 99) (dg tX7_now 34 rfl) (by omega) (by omega) (by rw [hq]; rfl) (by decide) ?_
        refine WP.aload_n 0 (dg tX7_now 40 rfl) rfl rfl ?_
        refine WP.getF fX7_13 h0.1 (dg tX7_now 41 rfl) ?_
        refine WP.iconst (v := 0) (dg tX7_now 42 rfl) (by decide) ?_
        refine WP.ialdc (k := 0) h0.2.2.1 (by decide) (by decide) (dg tX7_now 43 rfl) ?_
        exact WP.iret rfl (dg tX7_now 44 rfl) ⟨_, rfl, h⟩
      · have he : x1 = 2 := Int32.toInt_inj.mp (by rw [hq]; rfl)
        replace h := h.2.2.1 (he)
        refine WP.tabIn (off := 53) (tgt := 106) (dg tX7_now 34 rfl) (by omega) (by omega) (by rw [hq]; rfl) (by decide) ?_
        refine WP.aload_n 0 (dg tX7_now 45 rfl) rfl rfl ?_
        refine WP.getF fX7_17 h0.1 (dg tX7_now 46 rfl) ?_
        refine WP.iconst (v := 0) (dg tX7_now 47 rfl) (by decide) ?_
        refine WP.ialdc (k := 0) h0.2.2.2.1 (by decide) (by decide) (dg tX7_now 48 rfl) ?_
        exact WP.iret rfl (dg tX7_now 49 rfl) ⟨_, rfl, h⟩
      · have he : x1 = 3 := Int32.toInt_inj.mp (by rw [hq]; rfl)
        replace h := h.2.2.2.1 (he)
        refine WP.tabIn (off := 60) (tgt := 113) (dg tX7_now 34 rfl) (by omega) (by omega) (by rw [hq]; rfl) (by decide) ?_
        refine WP.aload_n 0 (dg tX7_now 50 rfl) rfl rfl ?_
        refine WP.getF fX7_20 h0.1 (dg tX7_now 51 rfl) ?_
        refine WP.iconst (v := 0) (dg tX7_now 52 rfl) (by decide) ?_
        refine WP.ialdc (k := 0) h0.2.2.2.2.1 (by decide) (by decide) (dg tX7_now 53 rfl) ?_
        exact WP.iret rfl (dg tX7_now 54 rfl) ⟨_, rfl, h⟩
      · have he : x1 = 4 := Int32.toInt_inj.mp (by rw [hq]; rfl)
        replace h := h.2.2.2.2.1 (he)
        refine WP.tabIn (off := 67) (tgt := 120) (dg tX7_now 34 rfl) (by omega) (by omega) (by rw [hq]; rfl) (by decide) ?_
        refine WP.aload_n 0 (dg tX7_now 55 rfl) rfl rfl ?_
        refine WP.callVi (As := []) (st := []) vX7_180 h0.1 rfl rfl ⟨Nat.le_of_ble_eq_true rfl, Nat.le_of_ble_eq_true rfl⟩ (Nat.le_of_ble_eq_true rfl) rfl (dg tX7_now 56 rfl) h (fun v3 M2 h => ?_)
        exact WP.iret rfl (dg tX7_now 57 rfl) ⟨_, rfl, h⟩
      · have he : x1 = 5 := Int32.toInt_inj.mp (by rw [hq]; rfl)
        replace h := h.2.2.2.2.2.1 (he)
        refine WP.tabIn (off := 72) (tgt := 125) (dg tX7_now 34 rfl) (by omega) (by omega) (by rw [hq]; rfl) (by decide) ?_
        refine WP.iload_n 2 (dg tX7_now 58 rfl) rfl rfl ?_
        exact WP.iret rfl (dg tX7_now 59 rfl) ⟨_, rfl, h⟩
  · replace h := h.2 z
    refine WP.iload_n 2 (dg tX7_now 10 rfl) rfl rfl ?_
    refine WP.aload_n 0 (dg tX7_now 11 rfl) rfl rfl ?_
    refine WP.getF fX7_59 h0.1 (dg tX7_now 12 rfl) ?_
    refine WP.bipush (v := 16) (dg tX7_now 13 rfl) (by decide) ?_
    refine WP.iload_n 3 (dg tX7_now 14 rfl) rfl rfl ?_
    refine WP.iadd (dg tX7_now 15 rfl) ?_
    obtain ⟨hb23, h⟩ := h
    refine WP.iald h0.2.2.2.2.2.2.2.2.2.2.2.2.2.2.2.2.2.1 hb23 (dg tX7_now 16 rfl) ?_
    refine WP.aload_n 0 (dg tX7_now 17 rfl) rfl rfl ?_
    refine WP.getF fX7_44 h0.1 (dg tX7_now 18 rfl) ?_
    refine WP.iload_n 3 (dg tX7_now 19 rfl) rfl rfl ?_
    obtain ⟨hb29, h⟩ := h
    refine WP.iald h0.2.2.2.2.2.2.2.2.2.2.2.2.1 hb29 (dg tX7_now 20 rfl) ?_
    refine WP.icmp_lt (tgt := 39) (dg tX7_now 21 rfl) (by decide) (fun z => ?_) (fun z => ?_)
    · replace h := h.1 z
      refine WP.iconst (v := 0) (dg tX7_now 26 rfl) (by decide) ?_
      refine WP.ior (dg tX7_now 27 rfl) ?_
      refine WP.topi (fun v1 e_v1 => ?_)
      have h := h v1 e_v1
      refine WP.istore_n (L2 := [(2, .int v1), (0, .ref x0), (1, .int x1), (3, .int x3)]) (dg tX7_now 28 rfl) rfl (by decide) rfl ?_
      obtain ⟨v2, e_v2⟩ : ∃ y : Int32, y = x3 + 1 := ⟨_, rfl⟩
      have h := h v2 e_v2
      refine WP.iinc (v := v2) (L2 := [(3, .int v2), (2, .int v1), (0, .ref x0), (1, .int x1)]) 3 (dg tX7_now 29 rfl) rfl (by rw [e_v2]; rfl) (by decide) rfl ?_
      refine WP.goto (tgt := 4) (dg tX7_now 30 rfl) (by decide) ?_
      refine WP.sub [2, 3, 1, 0] rfl ?_
      exact h
    · replace h := h.2 z
      refine WP.iconst (v := 1) (dg tX7_now 22 rfl) (by decide) ?_
      refine WP.iload_n 3 (dg tX7_now 23 rfl) rfl rfl ?_
      refine WP.ishl (dg tX7_now 24 rfl) ?_
      refine WP.goto (tgt := 40) (dg tX7_now 25 rfl) (by decide) ?_
      refine WP.ior (dg tX7_now 27 rfl) ?_
      refine WP.topi (fun v1 e_v1 => ?_)
      have h := h v1 e_v1
      refine WP.istore_n (L2 := [(2, .int v1), (0, .ref x0), (1, .int x1), (3, .int x3)]) (dg tX7_now 28 rfl) rfl (by decide) rfl ?_
      obtain ⟨v2, e_v2⟩ : ∃ y : Int32, y = x3 + 1 := ⟨_, rfl⟩
      have h := h v2 e_v2
      refine WP.iinc (v := v2) (L2 := [(3, .int v2), (2, .int v1), (0, .ref x0), (1, .int x1)]) 3 (dg tX7_now 29 rfl) rfl (by rw [e_v2]; rfl) (by decide) rfl ?_
      refine WP.goto (tgt := 4) (dg tX7_now 30 rfl) (by decide) ?_
      refine WP.sub [2, 3, 1, 0] rfl ?_
      exact h
theorem sg_X7_isFree_0 {T : Th} {M : Mm} {Q : Int32 → Mm → Prop} {x0 : Nat} {x1 : Int32} {x2 : Int32} (h0 : isX7 T x0)
    (h : WP T mX7_isFree 5 [(0, .ref x0), (1, .int x1), (2, .int x2), (3, .int 1), (4, .int 0)] [] M (qi Q)) :
    WP T mX7_isFree 0 [(0, .ref x0), (1, .int x1), (2, .int x2)] [] M (qi Q) := by
  refine WP.iconst (v := 1) (dg tX7_isFree 0 rfl) (by decide) ?_
  refine WP.istore_n (L2 := [(3, .int 1), (0, .ref x0), (1, .int x1), (2, .int x2)]) (dg tX7_isFree 1 rfl) rfl (by decide) rfl ?_
  refine WP.iconst (v := 0) (dg tX7_isFree 2 rfl) (by decide) ?_
  refine WP.istore (L2 := [(4, .int 0), (3, .int 1), (0, .ref x0), (1, .int x1), (2, .int x2)]) (dg tX7_isFree 3 rfl) (by decide) rfl ?_
  refine WP.sub [2, 3, 4, 1, 0] rfl ?_
  exact h
theorem sg_X7_isFree_5 {T : Th} {M : Mm} {Q : Int32 → Mm → Prop} {x0 : Nat} {x1 : Int32} {x2 : Int32} {x3 : Int32} {x4 : Int32} (h0 : isX7 T x0)
    (h : ((M.1 (x0 + 7) 0) ≤ x4 → (x3 = 0 ∨ x3 = 1) ∧ Q x3 M) ∧ (¬ (M.1 (x0 + 7) 0) ≤ x4 → ((M.1 (x0 + 5) 0) = (-9) → WP T mX7_isFree 49 [(0, .ref x0), (1, .int x1), (2, .int x2), (3, .int x3), (4, .int x4)] [.int 0] M (qi Q)) ∧ (¬ (M.1 (x0 + 5) 0) = (-9) → ¬ (M.1 (x0 + 2) 0) = 0 ∧ ((¬ (x1 - x1 / (M.1 (x0 + 2) 0) * (M.1 (x0 + 2) 0)) = (M.1 (x0 + 5) 0) → WP T mX7_isFree 49 [(0, .ref x0), (1, .int x1), (2, .int x2), (3, .int x3), (4, .int x4)] [.int 0] M (qi Q)) ∧ ((x1 - x1 / (M.1 (x0 + 2) 0) * (M.1 (x0 + 2) 0)) = (M.1 (x0 + 5) 0) → WP T mX7_isFree 49 [(0, .ref x0), (1, .int x1), (2, .int x2), (3, .int x3), (4, .int x4)] [.int 1] M (qi Q)))))) :
    WP T mX7_isFree 5 [(0, .ref x0), (1, .int x1), (2, .int x2), (3, .int x3), (4, .int x4)] [] M (qi Q) := by
  refine WP.iload 4 (dg tX7_isFree 4 rfl) rfl ?_
  refine WP.aload_n 0 (dg tX7_isFree 5 rfl) rfl rfl ?_
  refine WP.getF fX7_29 h0.1 (dg tX7_isFree 6 rfl) ?_
  refine WP.iconst (v := 0) (dg tX7_isFree 7 rfl) (by decide) ?_
  refine WP.ialdc (k := 0) h0.2.2.2.2.2.2.2.1 (by decide) (by decide) (dg tX7_isFree 8 rfl) ?_
  refine WP.icmp_ge (tgt := 99) (dg tX7_isFree 9 rfl) (by decide) (fun z => ?_) (fun z => ?_)
  · replace h := h.1 z
    refine WP.iload_n 3 (dg tX7_isFree 57 rfl) rfl rfl ?_
    obtain ⟨hb100, h⟩ := h
    exact WP.zret rfl hb100 (dg tX7_isFree 58 rfl) ⟨_, rfl, h⟩
  · replace h := h.2 z
    refine WP.aload_n 0 (dg tX7_isFree 10 rfl) rfl rfl ?_
    refine WP.getF fX7_23 h0.1 (dg tX7_isFree 11 rfl) ?_
    refine WP.iconst (v := 0) (dg tX7_isFree 12 rfl) (by decide) ?_
    refine WP.ialdc (k := 0) h0.2.2.2.2.2.1 (by decide) (by decide) (dg tX7_isFree 13 rfl) ?_
    refine WP.bipush (v := (-9)) (dg tX7_isFree 14 rfl) (by decide) ?_
    refine WP.icmp_eq (tgt := 48) (dg tX7_isFree 15 rfl) (by decide) (fun z => ?_) (fun z => ?_)
    · replace h := h.1 z
      refine WP.iconst (v := 0) (dg tX7_isFree 29 rfl) (by decide) ?_
      exact h
    · replace h := h.2 z
      refine WP.iload_n 1 (dg tX7_isFree 16 rfl) rfl rfl ?_
      refine WP.aload_n 0 (dg tX7_isFree 17 rfl) rfl rfl ?_
      refine WP.getF fX7_13 h0.1 (dg tX7_isFree 18 rfl) ?_
      refine WP.iconst (v := 0) (dg tX7_isFree 19 rfl) (by decide) ?_
      refine WP.ialdc (k := 0) h0.2.2.1 (by decide) (by decide) (dg tX7_isFree 20 rfl) ?_
      obtain ⟨hz34, h⟩ := h
      refine WP.irem (dg tX7_isFree 21 rfl) hz34 ?_
      refine WP.aload_n 0 (dg tX7_isFree 22 rfl) rfl rfl ?_
      refine WP.getF fX7_23 h0.1 (dg tX7_isFree 23 rfl) ?_
      refine WP.iconst (v := 0) (dg tX7_isFree 24 rfl) (by decide) ?_
      refine WP.ialdc (k := 0) h0.2.2.2.2.2.1 (by decide) (by decide) (dg tX7_isFree 25 rfl) ?_
      refine WP.icmp_ne (tgt := 48) (dg tX7_isFree 26 rfl) (by decide) (fun z => ?_) (fun z => ?_)
      · replace h := h.1 z
        refine WP.iconst (v := 0) (dg tX7_isFree 29 rfl) (by decide) ?_
        exact h
      · replace h := h.2 z
        refine WP.iconst (v := 1) (dg tX7_isFree 27 rfl) (by decide) ?_
        refine WP.goto (tgt := 49) (dg tX7_isFree 28 rfl) (by decide) ?_
        exact h
theorem sg_X7_isFree_49 {T : Th} {M : Mm} {Q : Int32 → Mm → Prop} {x0 : Nat} {x1 : Int32} {x2 : Int32} {x3 : Int32} {x4 : Int32} {s0 : Int32} (h0 : isX7 T x0)
    (h : (x3 = 0 → ∀ v1 : Int32, v1 = x4 + 1 → WP T mX7_isFree 5 [(0, .ref x0), (1, .int x1), (2, .int x2), (3, .int 0), (4, .int v1)] [] M (qi Q)) ∧ (¬ x3 = 0 → vp_in (1 + x4) 31 ∧ ((¬ (M.1 (x0 + 18) (1 + x4).toNatClampNeg) = x1 → ∀ v1 : Int32, v1 = x4 + 1 → WP T mX7_isFree 5 [(0, .ref x0), (1, .int x1), (2, .int x2), (3, .int 1), (4, .int v1)] [] M (qi Q)) ∧ ((M.1 (x0 + 18) (1 + x4).toNatClampNeg) = x1 → vp_in (26 + x4) 31 ∧ (((M.1 (x0 + 18) (26 + x4).toNatClampNeg) = x2 → ∀ v1 : Int32, v1 = x4 + 1 → WP T mX7_isFree 5 [(0, .ref x0), (1, .int x1), (2, .int x2), (3, .int 0), (4, .int v1)] [] M (qi Q)) ∧ (¬ (M.1 (x0 + 18) (26 + x4).toNatClampNeg) = x2 → (¬ s0 = 0 → ∀ v1 : Int32, v1 = x4 + 1 → WP T mX7_isFree 5 [(0, .ref x0), (1, .int x1), (2, .int x2), (3, .int 0), (4, .int v1)] [] M (qi Q)) ∧ (s0 = 0 → ∀ v1 : Int32, v1 = x4 + 1 → WP T mX7_isFree 5 [(0, .ref x0), (1, .int x1), (2, .int x2), (3, .int 1), (4, .int v1)] [] M (qi Q)))))))) :
    WP T mX7_isFree 49 [(0, .ref x0), (1, .int x1), (2, .int x2), (3, .int x3), (4, .int x4)] [.int s0] M (qi Q) := by
  refine WP.istore (L2 := [(5, .int s0), (0, .ref x0), (1, .int x1), (2, .int x2), (3, .int x3), (4, .int x4)]) (dg tX7_isFree 30 rfl) (by decide) rfl ?_
  refine WP.iload_n 4 (dg tX7_isFree 31 rfl) rfl rfl ?_
  refine WP.if_eq (tgt := 91) (dg tX7_isFree 32 rfl) (by decide) (fun z => ?_) (fun z => ?_)
  · replace h := h.1 z
    refine WP.iconst (v := 0) (dg tX7_isFree 53 rfl) (by decide) ?_
    refine WP.istore_n (L2 := [(3, .int 0), (5, .int s0), (0, .ref x0), (1, .int x1), (2, .int x2), (4, .int x4)]) (dg tX7_isFree 54 rfl) rfl (by decide) rfl ?_
    obtain ⟨v1, e_v1⟩ : ∃ y : Int32, y = x4 + 1 := ⟨_, rfl⟩
    have h := h v1 e_v1
    refine WP.iinc (v := v1) (L2 := [(4, .int v1), (3, .int 0), (5, .int s0), (0, .ref x0), (1, .int x1), (2, .int x2)]) 5 (dg tX7_isFree 55 rfl) rfl (by rw [e_v1]; rfl) (by decide) rfl ?_
    refine WP.goto (tgt := 5) (dg tX7_isFree 56 rfl) (by decide) ?_
    refine WP.sub [3, 4, 5, 1, 0] rfl ?_
    exact h
  · replace h := h.2 z
    refine WP.aload_n 1 (dg tX7_isFree 33 rfl) rfl rfl ?_
    refine WP.getF fX7_62 h0.1 (dg tX7_isFree 34 rfl) ?_
    refine WP.iconst (v := 1) (dg tX7_isFree 35 rfl) (by decide) ?_
    refine WP.iload 5 (dg tX7_isFree 36 rfl) rfl ?_
    refine WP.iadd (dg tX7_isFree 37 rfl) ?_
    obtain ⟨hb63, h⟩ := h
    refine WP.iald h0.2.2.2.2.2.2.2.2.2.2.2.2.2.2.2.2.2.2.1 hb63 (dg tX7_isFree 38 rfl) ?_
    refine WP.iload_n 2 (dg tX7_isFree 39 rfl) rfl rfl ?_
    refine WP.icmp_ne (tgt := 87) (dg tX7_isFree 40 rfl) (by decide) (fun z => ?_) (fun z => ?_)
    · replace h := h.1 z
      refine WP.iconst (v := 1) (dg tX7_isFree 51 rfl) (by decide) ?_
      refine WP.goto (tgt := 92) (dg tX7_isFree 52 rfl) (by decide) ?_
      refine WP.istore_n (L2 := [(3, .int 1), (5, .int s0), (0, .ref x0), (1, .int x1), (2, .int x2), (4, .int x4)]) (dg tX7_isFree 54 rfl) rfl (by decide) rfl ?_
      obtain ⟨v1, e_v1⟩ : ∃ y : Int32, y = x4 + 1 := ⟨_, rfl⟩
      have h := h v1 e_v1
      refine WP.iinc (v := v1) (L2 := [(4, .int v1), (3, .int 1), (5, .int s0), (0, .ref x0), (1, .int x1), (2, .int x2)]) 5 (dg tX7_isFree 55 rfl) rfl (by rw [e_v1]; rfl) (by decide) rfl ?_
      refine WP.goto (tgt := 5) (dg tX7_isFree 56 rfl) (by decide) ?_
      refine WP.sub [3, 4, 5, 1, 0] rfl ?_
      exact h
    · replace h := h.2 z
      refine WP.aload_n 1 (dg tX7_isFree 41 rfl) rfl rfl ?_
      refine WP.getF fX7_62 h0.1 (dg tX7_isFree 42 rfl) ?_
      refine WP.bipush (v := 26) (dg tX7_isFree 43 rfl) (by decide) ?_
      refine WP.iload 5 (dg tX7_isFree 44 rfl) rfl ?_
      refine WP.iadd (dg tX7_isFree 45 rfl) ?_
      obtain ⟨hb77, h⟩ := h
      refine WP.iald h0.2.2.2.2.2.2.2.2.2.2.2.2.2.2.2.2.2.2.1 hb77 (dg tX7_isFree 46 rfl) ?_
      refine WP.iload_n 3 (dg tX7_isFree 47 rfl) rfl rfl ?_
      refine WP.icmp_eq (tgt := 91) (dg tX7_isFree 48 rfl) (by decide) (fun z => ?_) (fun z => ?_)
      · replace h := h.1 z
        refine WP.iconst (v := 0) (dg tX7_isFree 53 rfl) (by decide) ?_
        refine WP.istore_n (L2 := [(3, .int 0), (5, .int s0), (0, .ref x0), (1, .int x1), (2, .int x2), (4, .int x4)]) (dg tX7_isFree 54 rfl) rfl (by decide) rfl ?_
        obtain ⟨v1, e_v1⟩ : ∃ y : Int32, y = x4 + 1 := ⟨_, rfl⟩
        have h := h v1 e_v1
        refine WP.iinc (v := v1) (L2 := [(4, .int v1), (3, .int 0), (5, .int s0), (0, .ref x0), (1, .int x1), (2, .int x2)]) 5 (dg tX7_isFree 55 rfl) rfl (by rw [e_v1]; rfl) (by decide) rfl ?_
        refine WP.goto (tgt := 5) (dg tX7_isFree 56 rfl) (by decide) ?_
        refine WP.sub [3, 4, 5, 1, 0] rfl ?_
        exact h
      · replace h := h.2 z
        refine WP.iload 0 (dg tX7_isFree 49 rfl) rfl ?_
        refine WP.if_ne (tgt := 91) (dg tX7_isFree 50 rfl) (by decide) (fun z => ?_) (fun z => ?_)
        · replace h := h.1 z
          refine WP.iconst (v := 0) (dg tX7_isFree 53 rfl) (by decide) ?_
          refine WP.istore_n (L2 := [(3, .int 0), (5, .int s0), (0, .ref x0), (1, .int x1), (2, .int x2), (4, .int x4)]) (dg tX7_isFree 54 rfl) rfl (by decide) rfl ?_
          obtain ⟨v1, e_v1⟩ : ∃ y : Int32, y = x4 + 1 := ⟨_, rfl⟩
          have h := h v1 e_v1
          refine WP.iinc (v := v1) (L2 := [(4, .int v1), (3, .int 0), (5, .int s0), (0, .ref x0), (1, .int x1), (2, .int x2)]) 5 (dg tX7_isFree 55 rfl) rfl (by rw [e_v1]; rfl) (by decide) rfl ?_
          refine WP.goto (tgt := 5) (dg tX7_isFree 56 rfl) (by decide) ?_
          refine WP.sub [3, 4, 5, 1, 0] rfl ?_
          exact h
        · replace h := h.2 z
          refine WP.iconst (v := 1) (dg tX7_isFree 51 rfl) (by decide) ?_
          refine WP.goto (tgt := 92) (dg tX7_isFree 52 rfl) (by decide) ?_
          refine WP.istore_n (L2 := [(3, .int 1), (5, .int s0), (0, .ref x0), (1, .int x1), (2, .int x2), (4, .int x4)]) (dg tX7_isFree 54 rfl) rfl (by decide) rfl ?_
          obtain ⟨v1, e_v1⟩ : ∃ y : Int32, y = x4 + 1 := ⟨_, rfl⟩
          have h := h v1 e_v1
          refine WP.iinc (v := v1) (L2 := [(4, .int v1), (3, .int 1), (5, .int s0), (0, .ref x0), (1, .int x1), (2, .int x2)]) 5 (dg tX7_isFree 55 rfl) rfl (by rw [e_v1]; rfl) (by decide) rfl ?_
          refine WP.goto (tgt := 5) (dg tX7_isFree 56 rfl) (by decide) ?_
          refine WP.sub [3, 4, 5, 1, 0] rfl ?_
          exact h
theorem sg_X7_move_0 {T : Th} {M : Mm} {Q : Mm → Prop} {x0 : Nat} {x1 : Int32} (h0 : isX7 T x0)
    (h : vp_in (21 + x1) 31 ∧ ((¬ (M.1 (x0 + 18) (21 + x1).toNatClampNeg) = 1 → vp_in (11 + x1) 31 ∧ (((M.1 (x0 + 18) (11 + x1).toNatClampNeg) ≤ 0 → vp_in (6 + x1) 31 ∧ (vp_in (6 + x1) 31 ∧ (((M.1 (x0 + 18) (6 + x1).toNatClampNeg) ≤ 0 → WP T mX7_move 80 [(0, .ref x0), (1, .int x1)] [.int 0, .int (M.1 (x0 + 18) (6 + x1).toNatClampNeg), .int (6 + x1), .ref (x0 + 18)] M (qv Q)) ∧ (¬ (M.1 (x0 + 18) (6 + x1).toNatClampNeg) ≤ 0 → WP T mX7_move 80 [(0, .ref x0), (1, .int x1)] [.int 1, .int (M.1 (x0 + 18) (6 + x1).toNatClampNeg), .int (6 + x1), .ref (x0 + 18)] M (qv Q))))) ∧ (¬ (M.1 (x0 + 18) (11 + x1).toNatClampNeg) ≤ 0 → vp_in (11 + x1) 31 ∧ (vp_in (11 + x1) 31 ∧ (∀ M1 : Mm, M1 = sI M (x0 + 18) (11 + x1).toNatClampNeg ((M.1 (x0 + 18) (11 + x1).toNatClampNeg) - 1) → vp_in (16 + x1) 31 ∧ (vp_in (16 + x1) 31 ∧ (∀ M2 : Mm, M2 = sI M1 (x0 + 18) (16 + x1).toNatClampNeg ((M1.1 (x0 + 18) (16 + x1).toNatClampNeg) + 1) → Q M2))))))) ∧ ((M.1 (x0 + 18) (21 + x1).toNatClampNeg) = 1 → Q M))) :
    WP T mX7_move 0 [(0, .ref x0), (1, .int x1)] [] M (qv Q) := by
  refine WP.aload_n 0 (dg tX7_move 0 rfl) rfl rfl ?_
  refine WP.getF fX7_62 h0.1 (dg tX7_move 1 rfl) ?_
  refine WP.bipush (v := 21) (dg tX7_move 2 rfl) (by decide) ?_
  refine WP.iload_n 1 (dg tX7_move 3 rfl) rfl rfl ?_
  refine WP.iadd (dg tX7_move 4 rfl) ?_
  obtain ⟨hb8, h⟩ := h
  refine WP.iald h0.2.2.2.2.2.2.2.2.2.2.2.2.2.2.2.2.2.2.1 hb8 (dg tX7_move 5 rfl) ?_
  refine WP.iconst (v := 1) (dg tX7_move 6 rfl) (by decide) ?_
  refine WP.icmp_ne (tgt := 14) (dg tX7_move 7 rfl) (by decide) (fun z => ?_) (fun z => ?_)
  · replace h := h.1 z
    refine WP.aload_n 0 (dg tX7_move 9 rfl) rfl rfl ?_
    refine WP.getF fX7_62 h0.1 (dg tX7_move 10 rfl) ?_
    refine WP.bipush (v := 11) (dg tX7_move 11 rfl) (by decide) ?_
    refine WP.iload_n 1 (dg tX7_move 12 rfl) rfl rfl ?_
    refine WP.iadd (dg tX7_move 13 rfl) ?_
    obtain ⟨hb22, h⟩ := h
    refine WP.iald h0.2.2.2.2.2.2.2.2.2.2.2.2.2.2.2.2.2.2.1 hb22 (dg tX7_move 14 rfl) ?_
    refine WP.if_le (tgt := 53) (dg tX7_move 15 rfl) (by decide) (fun z => ?_) (fun z => ?_)
    · replace h := h.1 z
      refine WP.aload_n 0 (dg tX7_move 37 rfl) rfl rfl ?_
      refine WP.getF fX7_62 h0.1 (dg tX7_move 38 rfl) ?_
      refine WP.bipush (v := 6) (dg tX7_move 39 rfl) (by decide) ?_
      refine WP.iload_n 1 (dg tX7_move 40 rfl) rfl rfl ?_
      refine WP.iadd (dg tX7_move 41 rfl) ?_
      refine WP.dup2 (dg tX7_move 42 rfl) rfl rfl ?_
      obtain ⟨hb62, h⟩ := h
      refine WP.iald h0.2.2.2.2.2.2.2.2.2.2.2.2.2.2.2.2.2.2.1 hb62 (dg tX7_move 43 rfl) ?_
      refine WP.aload_n 0 (dg tX7_move 44 rfl) rfl rfl ?_
      refine WP.getF fX7_62 h0.1 (dg tX7_move 45 rfl) ?_
      refine WP.bipush (v := 6) (dg tX7_move 46 rfl) (by decide) ?_
      refine WP.iload_n 1 (dg tX7_move 47 rfl) rfl rfl ?_
      refine WP.iadd (dg tX7_move 48 rfl) ?_
      obtain ⟨hb71, h⟩ := h
      refine WP.iald h0.2.2.2.2.2.2.2.2.2.2.2.2.2.2.2.2.2.2.1 hb71 (dg tX7_move 49 rfl) ?_
      refine WP.if_le (tgt := 79) (dg tX7_move 50 rfl) (by decide) (fun z => ?_) (fun z => ?_)
      · replace h := h.1 z
        refine WP.iconst (v := 0) (dg tX7_move 53 rfl) (by decide) ?_
        exact h
      · replace h := h.2 z
        refine WP.iconst (v := 1) (dg tX7_move 51 rfl) (by decide) ?_
        refine WP.goto (tgt := 80) (dg tX7_move 52 rfl) (by decide) ?_
        exact h
    · replace h := h.2 z
      refine WP.aload_n 0 (dg tX7_move 16 rfl) rfl rfl ?_
      refine WP.getF fX7_62 h0.1 (dg tX7_move 17 rfl) ?_
      refine WP.bipush (v := 11) (dg tX7_move 18 rfl) (by decide) ?_
      refine WP.iload_n 1 (dg tX7_move 19 rfl) rfl rfl ?_
      refine WP.iadd (dg tX7_move 20 rfl) ?_
      refine WP.dup2 (dg tX7_move 21 rfl) rfl rfl ?_
      obtain ⟨hb35, h⟩ := h
      refine WP.iald h0.2.2.2.2.2.2.2.2.2.2.2.2.2.2.2.2.2.2.1 hb35 (dg tX7_move 22 rfl) ?_
      refine WP.iconst (v := 1) (dg tX7_move 23 rfl) (by decide) ?_
      refine WP.isub (dg tX7_move 24 rfl) ?_
      obtain ⟨hb38, h⟩ := h
      refine WP.iast h0.2.2.2.2.2.2.2.2.2.2.2.2.2.2.2.2.2.2.1 hb38 (dg tX7_move 25 rfl) (fun M1 e_M1 => ?_)
      have h := h M1 e_M1
      refine WP.aload_n 0 (dg tX7_move 26 rfl) rfl rfl ?_
      refine WP.getF fX7_62 h0.1 (dg tX7_move 27 rfl) ?_
      refine WP.bipush (v := 16) (dg tX7_move 28 rfl) (by decide) ?_
      refine WP.iload_n 1 (dg tX7_move 29 rfl) rfl rfl ?_
      refine WP.iadd (dg tX7_move 30 rfl) ?_
      refine WP.dup2 (dg tX7_move 31 rfl) rfl rfl ?_
      obtain ⟨hb48, h⟩ := h
      refine WP.iald h0.2.2.2.2.2.2.2.2.2.2.2.2.2.2.2.2.2.2.1 hb48 (dg tX7_move 32 rfl) ?_
      refine WP.iconst (v := 1) (dg tX7_move 33 rfl) (by decide) ?_
      refine WP.iadd (dg tX7_move 34 rfl) ?_
      obtain ⟨hb51, h⟩ := h
      refine WP.iast h0.2.2.2.2.2.2.2.2.2.2.2.2.2.2.2.2.2.2.1 hb51 (dg tX7_move 35 rfl) (fun M2 e_M2 => ?_)
      have h := h M2 e_M2
      exact WP.vret rfl (dg tX7_move 36 rfl) ⟨rfl, h⟩
  · replace h := h.2 z
    exact WP.vret rfl (dg tX7_move 8 rfl) ⟨rfl, h⟩
theorem sg_X7_move_80 {T : Th} {M : Mm} {Q : Mm → Prop} {x0 : Nat} {x1 : Int32} {s0 : Int32} {s1 : Int32} {s2 : Int32} {s3 : Nat} (h0 : isX7 T x0) (hs3 : Ob T s3 (1, 31))
    (h : vp_in s2 31 ∧ (∀ M1 : Mm, M1 = sI M s3 s2.toNatClampNeg (s1 - s0) → vp_in (6 + x1) 31 ∧ (((M1.1 (x0 + 18) (6 + x1).toNatClampNeg) ≤ 0 → vp_in (1 + x1) 31 ∧ (∀ v2 : Int32, v2 = (M1.1 (x0 + 18) (1 + x1).toNatClampNeg) + 1 → vp_in (26 + x1) 31 ∧ (WPi T mX7_isFree [.ref x0, .int v2, .int (M1.1 (x0 + 18) (26 + x1).toNatClampNeg)] M1 (fun v4 M3 => (v4 = 0 → (¬ (M3.1 x0 29) = (-9) → ∀ M5 : Mm, M5 = sI M3 x0 29 (M3.1 x0 29) → Q M5) ∧ ((M3.1 x0 29) = (-9) → ∀ M5 : Mm, M5 = sI M3 x0 29 x1 → Q M5)) ∧ (¬ v4 = 0 → vp_in (1 + x1) 31 ∧ (∀ M5 : Mm, M5 = sI M3 (x0 + 18) (1 + x1).toNatClampNeg v2 → WPi T mX7_costAt [.ref x0, .int v2] M5 (fun v7 M6 => vp_in x1 5 ∧ (vp_in (6 + x1) 31 ∧ (∀ M8 : Mm, M8 = sI M6 (x0 + 18) (6 + x1).toNatClampNeg (v7 + (M6.1 (x0 + 16) x1.toNatClampNeg)) → Q M8))))))))) ∧ (¬ (M1.1 (x0 + 18) (6 + x1).toNatClampNeg) ≤ 0 → Q M1)))) :
    WP T mX7_move 80 [(0, .ref x0), (1, .int x1)] [.int s0, .int s1, .int s2, .ref s3] M (qv Q) := by
  refine WP.isub (dg tX7_move 54 rfl) ?_
  obtain ⟨hb81, h⟩ := h
  refine WP.iast hs3 hb81 (dg tX7_move 55 rfl) (fun M1 e_M1 => ?_)
  have h := h M1 e_M1
  refine WP.aload_n 0 (dg tX7_move 56 rfl) rfl rfl ?_
  refine WP.getF fX7_62 h0.1 (dg tX7_move 57 rfl) ?_
  refine WP.bipush (v := 6) (dg tX7_move 58 rfl) (by decide) ?_
  refine WP.iload_n 1 (dg tX7_move 59 rfl) rfl rfl ?_
  refine WP.iadd (dg tX7_move 60 rfl) ?_
  obtain ⟨hb90, h⟩ := h
  refine WP.iald h0.2.2.2.2.2.2.2.2.2.2.2.2.2.2.2.2.2.2.1 hb90 (dg tX7_move 61 rfl) ?_
  refine WP.if_le (tgt := 95) (dg tX7_move 62 rfl) (by decide) (fun z => ?_) (fun z => ?_)
  · replace h := h.1 z
    refine WP.aload_n 0 (dg tX7_move 64 rfl) rfl rfl ?_
    refine WP.getF fX7_62 h0.1 (dg tX7_move 65 rfl) ?_
    refine WP.iconst (v := 1) (dg tX7_move 66 rfl) (by decide) ?_
    refine WP.iload_n 1 (dg tX7_move 67 rfl) rfl rfl ?_
    refine WP.iadd (dg tX7_move 68 rfl) ?_
    obtain ⟨hb102, h⟩ := h
    refine WP.iald h0.2.2.2.2.2.2.2.2.2.2.2.2.2.2.2.2.2.2.1 hb102 (dg tX7_move 69 rfl) ?_
    refine WP.iconst (v := 1) (dg tX7_move 70 rfl) (by decide) ?_
    refine WP.iadd (dg tX7_move 71 rfl) ?_
    refine WP.topi (fun v2 e_v2 => ?_)
    have h := h v2 e_v2
    refine WP.istore_n (L2 := [(2, .int v2), (0, .ref x0), (1, .int x1)]) (dg tX7_move 72 rfl) rfl (by decide) rfl ?_
    refine WP.aload_n 1 (dg tX7_move 73 rfl) rfl rfl ?_
    refine WP.iload_n 0 (dg tX7_move 74 rfl) rfl rfl ?_
    refine WP.aload_n 1 (dg tX7_move 75 rfl) rfl rfl ?_
    refine WP.getF fX7_62 h0.1 (dg tX7_move 76 rfl) ?_
    refine WP.bipush (v := 26) (dg tX7_move 77 rfl) (by decide) ?_
    refine WP.iload_n 2 (dg tX7_move 78 rfl) rfl rfl ?_
    refine WP.iadd (dg tX7_move 79 rfl) ?_
    obtain ⟨hb116, h⟩ := h
    refine WP.iald h0.2.2.2.2.2.2.2.2.2.2.2.2.2.2.2.2.2.2.1 hb116 (dg tX7_move 80 rfl) ?_
    refine WP.callVi (As := [.int v2, .int (M1.1 (x0 + 18) (26 + x1).toNatClampNeg)]) (st := []) vX7_183 h0.1 rfl rfl ⟨Nat.le_of_ble_eq_true rfl, Nat.le_of_ble_eq_true rfl⟩ (Nat.le_of_ble_eq_true rfl) rfl (dg tX7_move 81 rfl) h (fun v4 M3 h => ?_)
    refine WP.if_eq (tgt := 156) (dg tX7_move 82 rfl) (by decide) (fun z => ?_) (fun z => ?_)
    · replace h := h.1 z
      refine WP.aload_n 1 (dg tX7_move 105 rfl) rfl rfl ?_
      refine WP.aload_n 1 (dg tX7_move 106 rfl) rfl rfl ?_
      refine WP.getI fX7_186 h0.1 (dg tX7_move 107 rfl) ?_
      refine WP.bipush (v := (-9)) (dg tX7_move 108 rfl) (by decide) ?_
      refine WP.icmp_ne (tgt := 170) (dg tX7_move 109 rfl) (by decide) (fun z => ?_) (fun z => ?_)
      · replace h := h.1 z
        refine WP.aload_n 1 (dg tX7_move 112 rfl) rfl rfl ?_
        refine WP.getI fX7_186 h0.1 (dg tX7_move 113 rfl) ?_
        refine WP.putI fX7_186 h0.1 (dg tX7_move 114 rfl) (fun M5 e_M5 => ?_)
        have h := h M5 e_M5
        exact WP.vret rfl (dg tX7_move 115 rfl) ⟨rfl, h⟩
      · replace h := h.2 z
        refine WP.iload_n 2 (dg tX7_move 110 rfl) rfl rfl ?_
        refine WP.goto (tgt := 174) (dg tX7_move 111 rfl) (by decide) ?_
        refine WP.putI fX7_186 h0.1 (dg tX7_move 114 rfl) (fun M5 e_M5 => ?_)
        have h := h M5 e_M5
        exact WP.vret rfl (dg tX7_move 115 rfl) ⟨rfl, h⟩
    · replace h := h.2 z
      refine WP.aload_n 1 (dg tX7_move 83 rfl) rfl rfl ?_
      refine WP.getF fX7_62 h0.1 (dg tX7_move 84 rfl) ?_
      refine WP.iconst (v := 1) (dg tX7_move 85 rfl) (by decide) ?_
      refine WP.iload_n 2 (dg tX7_move 86 rfl) rfl rfl ?_
      refine WP.iadd (dg tX7_move 87 rfl) ?_
      refine WP.iload_n 0 (dg tX7_move 88 rfl) rfl rfl ?_
      obtain ⟨hb131, h⟩ := h
      refine WP.iast h0.2.2.2.2.2.2.2.2.2.2.2.2.2.2.2.2.2.2.1 hb131 (dg tX7_move 89 rfl) (fun M5 e_M5 => ?_)
      have h := h M5 e_M5
      refine WP.aload_n 1 (dg tX7_move 90 rfl) rfl rfl ?_
      refine WP.getF fX7_62 h0.1 (dg tX7_move 91 rfl) ?_
      refine WP.bipush (v := 6) (dg tX7_move 92 rfl) (by decide) ?_
      refine WP.iload_n 2 (dg tX7_move 93 rfl) rfl rfl ?_
      refine WP.iadd (dg tX7_move 94 rfl) ?_
      refine WP.aload_n 1 (dg tX7_move 95 rfl) rfl rfl ?_
      refine WP.iload_n 0 (dg tX7_move 96 rfl) rfl rfl ?_
      refine WP.callVi (As := [.int v2]) (st := [.int (6 + x1), .ref (x0 + 18)]) vX7_160 h0.1 rfl rfl ⟨Nat.le_of_ble_eq_true rfl, Nat.le_of_ble_eq_true rfl⟩ (Nat.le_of_ble_eq_true rfl) rfl (dg tX7_move 97 rfl) h (fun v7 M6 h => ?_)
      refine WP.aload_n 1 (dg tX7_move 98 rfl) rfl rfl ?_
      refine WP.getF fX7_56 h0.1 (dg tX7_move 99 rfl) ?_
      refine WP.iload_n 2 (dg tX7_move 100 rfl) rfl rfl ?_
      obtain ⟨hb150, h⟩ := h
      refine WP.iald h0.2.2.2.2.2.2.2.2.2.2.2.2.2.2.2.2.1 hb150 (dg tX7_move 101 rfl) ?_
      refine WP.iadd (dg tX7_move 102 rfl) ?_
      obtain ⟨hb152, h⟩ := h
      refine WP.iast h0.2.2.2.2.2.2.2.2.2.2.2.2.2.2.2.2.2.2.1 hb152 (dg tX7_move 103 rfl) (fun M8 e_M8 => ?_)
      have h := h M8 e_M8
      refine WP.goto (tgt := 177) (dg tX7_move 104 rfl) (by decide) ?_
      exact WP.vret rfl (dg tX7_move 115 rfl) ⟨rfl, h⟩
  · replace h := h.2 z
    exact WP.vret rfl (dg tX7_move 63 rfl) ⟨rfl, h⟩
theorem sg_X7_pass_0 {T : Th} {M : Mm} {Q : Mm → Prop} {x0 : Nat} (h0 : isX7 T x0)
    (h : ∀ M1 : Mm, M1 = sI M x0 29 (-9) → WP T mX7_pass 10 [(0, .ref x0), (1, .int 0), (2, .int 0)] [] M1 (qv Q)) :
    WP T mX7_pass 0 [(0, .ref x0)] [] M (qv Q) := by
  refine WP.aload_n 0 (dg tX7_pass 0 rfl) rfl rfl ?_
  refine WP.bipush (v := (-9)) (dg tX7_pass 1 rfl) (by decide) ?_
  refine WP.putI fX7_186 h0.1 (dg tX7_pass 2 rfl) (fun M1 e_M1 => ?_)
  have h := h M1 e_M1
  refine WP.iconst (v := 0) (dg tX7_pass 3 rfl) (by decide) ?_
  refine WP.istore_n (L2 := [(1, .int 0), (0, .ref x0)]) (dg tX7_pass 4 rfl) rfl (by decide) rfl ?_
  refine WP.iconst (v := 0) (dg tX7_pass 5 rfl) (by decide) ?_
  refine WP.istore_n (L2 := [(2, .int 0), (1, .int 0), (0, .ref x0)]) (dg tX7_pass 6 rfl) rfl (by decide) rfl ?_
  refine WP.sub [2, 1, 0] rfl ?_
  exact h
theorem sg_X7_pass_10 {T : Th} {M : Mm} {Q : Mm → Prop} {x0 : Nat} {x1 : Int32} {x2 : Int32} (h0 : isX7 T x0)
    (h : ((M.1 (x0 + 7) 0) ≤ x2 → ∀ M1 : Mm, M1 = sI M (x0 + 18) 0 ((M.1 (x0 + 18) 0) + 1) → WP T mX7_pass 110 [(0, .ref x0), (2, .int 0)] [] M1 (qv Q)) ∧ (¬ (M.1 (x0 + 7) 0) ≤ x2 → WP T mX7_pass 26 [(0, .ref x0), (1, .int x1), (2, .int x2), (3, .int (-9)), (4, .int 0)] [] M (qv Q))) :
    WP T mX7_pass 10 [(0, .ref x0), (1, .int x1), (2, .int x2)] [] M (qv Q) := by
  refine WP.iload_n 2 (dg tX7_pass 7 rfl) rfl rfl ?_
  refine WP.aload_n 0 (dg tX7_pass 8 rfl) rfl rfl ?_
  refine WP.getF fX7_29 h0.1 (dg tX7_pass 9 rfl) ?_
  refine WP.iconst (v := 0) (dg tX7_pass 10 rfl) (by decide) ?_
  refine WP.ialdc (k := 0) h0.2.2.2.2.2.2.2.1 (by decide) (by decide) (dg tX7_pass 11 rfl) ?_
  refine WP.icmp_ge (tgt := 98) (dg tX7_pass 12 rfl) (by decide) (fun z => ?_) (fun z => ?_)
  · replace h := h.1 z
    refine WP.aload_n 0 (dg tX7_pass 60 rfl) rfl rfl ?_
    refine WP.getF fX7_62 h0.1 (dg tX7_pass 61 rfl) ?_
    refine WP.iconst (v := 0) (dg tX7_pass 62 rfl) (by decide) ?_
    refine WP.dup2 (dg tX7_pass 63 rfl) rfl rfl ?_
    refine WP.ialdc (k := 0) h0.2.2.2.2.2.2.2.2.2.2.2.2.2.2.2.2.2.2.1 (by decide) (by decide) (dg tX7_pass 64 rfl) ?_
    refine WP.iconst (v := 1) (dg tX7_pass 65 rfl) (by decide) ?_
    refine WP.iadd (dg tX7_pass 66 rfl) ?_
    refine WP.iastc (k := 0) h0.2.2.2.2.2.2.2.2.2.2.2.2.2.2.2.2.2.2.1 (by decide) (by decide) (dg tX7_pass 67 rfl) (fun M1 e_M1 => ?_)
    have h := h M1 e_M1
    refine WP.iconst (v := 0) (dg tX7_pass 68 rfl) (by decide) ?_
    refine WP.istore_n (L2 := [(2, .int 0), (0, .ref x0), (1, .int x1)]) (dg tX7_pass 69 rfl) rfl (by decide) rfl ?_
    refine WP.sub [1, 0] rfl ?_
    exact h
  · replace h := h.2 z
    refine WP.bipush (v := (-9)) (dg tX7_pass 13 rfl) (by decide) ?_
    refine WP.istore_n (L2 := [(3, .int (-9)), (0, .ref x0), (1, .int x1), (2, .int x2)]) (dg tX7_pass 14 rfl) rfl (by decide) rfl ?_
    refine WP.iconst (v := 0) (dg tX7_pass 15 rfl) (by decide) ?_
    refine WP.istore (L2 := [(4, .int 0), (3, .int (-9)), (0, .ref x0), (1, .int x1), (2, .int x2)]) (dg tX7_pass 16 rfl) (by decide) rfl ?_
    refine WP.sub [2, 3, 4, 1, 0] rfl ?_
    exact h
theorem sg_X7_pass_110 {T : Th} {M : Mm} {Q : Mm → Prop} {x0 : Nat} {x2 : Int32} (h0 : isX7 T x0)
    (h : ((M.1 (x0 + 7) 0) ≤ x2 → Q M) ∧ (¬ (M.1 (x0 + 7) 0) ≤ x2 → vp_in (1 + x2) 31 ∧ (WPi T mX7_sunAt [.ref x0, .int (M.1 (x0 + 18) 0)] M (fun v2 M1 => (v2 < (M.1 (x0 + 18) (1 + x2).toNatClampNeg) → vp_in (21 + x2) 31 ∧ (vp_in (21 + x2) 31 ∧ (∀ M3 : Mm, M3 = sI M1 (x0 + 18) (21 + x2).toNatClampNeg (M1.1 (x0 + 18) (21 + x2).toNatClampNeg) → ∀ v4 : Int32, v4 = x2 + 1 → WP T mX7_pass 110 [(0, .ref x0), (2, .int v4)] [] M3 (qv Q)))) ∧ (¬ v2 < (M.1 (x0 + 18) (1 + x2).toNatClampNeg) → vp_in (21 + x2) 31 ∧ (∀ M3 : Mm, M3 = sI M1 (x0 + 18) (21 + x2).toNatClampNeg 1 → ∀ v4 : Int32, v4 = x2 + 1 → WP T mX7_pass 110 [(0, .ref x0), (2, .int v4)] [] M3 (qv Q))))))) :
    WP T mX7_pass 110 [(0, .ref x0), (2, .int x2)] [] M (qv Q) := by
  refine WP.iload_n 1 (dg tX7_pass 70 rfl) rfl rfl ?_
  refine WP.aload_n 0 (dg tX7_pass 71 rfl) rfl rfl ?_
  refine WP.getF fX7_29 h0.1 (dg tX7_pass 72 rfl) ?_
  refine WP.iconst (v := 0) (dg tX7_pass 73 rfl) (by decide) ?_
  refine WP.ialdc (k := 0) h0.2.2.2.2.2.2.2.1 (by decide) (by decide) (dg tX7_pass 74 rfl) ?_
  refine WP.icmp_ge (tgt := 169) (dg tX7_pass 75 rfl) (by decide) (fun z => ?_) (fun z => ?_)
  · replace h := h.1 z
    exact WP.vret rfl (dg tX7_pass 105 rfl) ⟨rfl, h⟩
  · replace h := h.2 z
    refine WP.aload_n 0 (dg tX7_pass 76 rfl) rfl rfl ?_
    refine WP.getF fX7_62 h0.1 (dg tX7_pass 77 rfl) ?_
    refine WP.bipush (v := 21) (dg tX7_pass 78 rfl) (by decide) ?_
    refine WP.iload_n 1 (dg tX7_pass 79 rfl) rfl rfl ?_
    refine WP.iadd (dg tX7_pass 80 rfl) ?_
    refine WP.aload_n 0 (dg tX7_pass 81 rfl) rfl rfl ?_
    refine WP.getF fX7_62 h0.1 (dg tX7_pass 82 rfl) ?_
    refine WP.iconst (v := 1) (dg tX7_pass 83 rfl) (by decide) ?_
    refine WP.iload_n 1 (dg tX7_pass 84 rfl) rfl rfl ?_
    refine WP.iadd (dg tX7_pass 85 rfl) ?_
    obtain ⟨hb135, h⟩ := h
    refine WP.iald h0.2.2.2.2.2.2.2.2.2.2.2.2.2.2.2.2.2.2.1 hb135 (dg tX7_pass 86 rfl) ?_
    refine WP.aload_n 0 (dg tX7_pass 87 rfl) rfl rfl ?_
    refine WP.aload_n 0 (dg tX7_pass 88 rfl) rfl rfl ?_
    refine WP.getF fX7_62 h0.1 (dg tX7_pass 89 rfl) ?_
    refine WP.iconst (v := 0) (dg tX7_pass 90 rfl) (by decide) ?_
    refine WP.ialdc (k := 0) h0.2.2.2.2.2.2.2.2.2.2.2.2.2.2.2.2.2.2.1 (by decide) (by decide) (dg tX7_pass 91 rfl) ?_
    refine WP.callVi (As := [.int (M.1 (x0 + 18) 0)]) (st := [.int (M.1 (x0 + 18) (1 + x2).toNatClampNeg), .int (21 + x2), .ref (x0 + 18)]) vX7_173 h0.1 rfl rfl ⟨Nat.le_of_ble_eq_true rfl, Nat.le_of_ble_eq_true rfl⟩ (Nat.le_of_ble_eq_true rfl) rfl (dg tX7_pass 92 rfl) h (fun v2 M1 h => ?_)
    refine WP.icmp_gt (tgt := 153) (dg tX7_pass 93 rfl) (by decide) (fun z => ?_) (fun z => ?_)
    · replace h := h.1 z
      refine WP.aload_n 0 (dg tX7_pass 96 rfl) rfl rfl ?_
      refine WP.getF fX7_62 h0.1 (dg tX7_pass 97 rfl) ?_
      refine WP.bipush (v := 21) (dg tX7_pass 98 rfl) (by decide) ?_
      refine WP.iload_n 1 (dg tX7_pass 99 rfl) rfl rfl ?_
      refine WP.iadd (dg tX7_pass 100 rfl) ?_
      obtain ⟨hb161, h⟩ := h
      refine WP.iald h0.2.2.2.2.2.2.2.2.2.2.2.2.2.2.2.2.2.2.1 hb161 (dg tX7_pass 101 rfl) ?_
      obtain ⟨hb162, h⟩ := h
      refine WP.iast h0.2.2.2.2.2.2.2.2.2.2.2.2.2.2.2.2.2.2.1 hb162 (dg tX7_pass 102 rfl) (fun M3 e_M3 => ?_)
      have h := h M3 e_M3
      obtain ⟨v4, e_v4⟩ : ∃ y : Int32, y = x2 + 1 := ⟨_, rfl⟩
      have h := h v4 e_v4
      refine WP.iinc (v := v4) (L2 := [(2, .int v4), (0, .ref x0)]) 1 (dg tX7_pass 103 rfl) rfl (by rw [e_v4]; rfl) (by decide) rfl ?_
      refine WP.goto (tgt := 110) (dg tX7_pass 104 rfl) (by decide) ?_
      refine WP.sub [1, 0] rfl ?_
      exact h
    · replace h := h.2 z
      refine WP.iconst (v := 1) (dg tX7_pass 94 rfl) (by decide) ?_
      refine WP.goto (tgt := 162) (dg tX7_pass 95 rfl) (by decide) ?_
      obtain ⟨hb162, h⟩ := h
      refine WP.iast h0.2.2.2.2.2.2.2.2.2.2.2.2.2.2.2.2.2.2.1 hb162 (dg tX7_pass 102 rfl) (fun M3 e_M3 => ?_)
      have h := h M3 e_M3
      obtain ⟨v4, e_v4⟩ : ∃ y : Int32, y = x2 + 1 := ⟨_, rfl⟩
      have h := h v4 e_v4
      refine WP.iinc (v := v4) (L2 := [(2, .int v4), (0, .ref x0)]) 1 (dg tX7_pass 103 rfl) rfl (by rw [e_v4]; rfl) (by decide) rfl ?_
      refine WP.goto (tgt := 110) (dg tX7_pass 104 rfl) (by decide) ?_
      refine WP.sub [1, 0] rfl ?_
      exact h
theorem sg_X7_pass_26 {T : Th} {M : Mm} {Q : Mm → Prop} {x0 : Nat} {x1 : Int32} {x2 : Int32} {x3 : Int32} {x4 : Int32} (h0 : isX7 T x0)
    (h : ((M.1 (x0 + 7) 0) ≤ x4 → ∀ v1 : Int32, v1 = x1 ||| (1 <<< (x3 &&& 31)) → WPv T mX7_move [.ref x0, .int x3] M (fun M2 => ∀ v3 : Int32, v3 = x2 + 1 → WP T mX7_pass 10 [(0, .ref x0), (1, .int v1), (2, .int v3)] [] M2 (qv Q))) ∧ (¬ (M.1 (x0 + 7) 0) ≤ x4 → (¬ ((x1 >>> (x4 &&& 31)) &&& 1) = 0 → ∀ v1 : Int32, v1 = x4 + 1 → WP T mX7_pass 26 [(0, .ref x0), (1, .int x1), (2, .int x2), (3, .int x3), (4, .int v1)] [] M (qv Q)) ∧ (((x1 >>> (x4 &&& 31)) &&& 1) = 0 → (x3 = (-9) → ∀ v1 : Int32, v1 = x4 + 1 → WP T mX7_pass 26 [(0, .ref x0), (1, .int x1), (2, .int x2), (3, .int x4), (4, .int v1)] [] M (qv Q)) ∧ (¬ x3 = (-9) → vp_in (1 + x4) 31 ∧ (vp_in (1 + x3) 31 ∧ (((M.1 (x0 + 18) (1 + x4).toNatClampNeg) ≤ (M.1 (x0 + 18) (1 + x3).toNatClampNeg) → ∀ v1 : Int32, v1 = x4 + 1 → WP T mX7_pass 26 [(0, .ref x0), (1, .int x1), (2, .int x2), (3, .int x3), (4, .int v1)] [] M (qv Q)) ∧ (¬ (M.1 (x0 + 18) (1 + x4).toNatClampNeg) ≤ (M.1 (x0 + 18) (1 + x3).toNatClampNeg) → ∀ v1 : Int32, v1 = x4 + 1 → WP T mX7_pass 26 [(0, .ref x0), (1, .int x1), (2, .int x2), (3, .int x4), (4, .int v1)] [] M (qv Q)))))))) :
    WP T mX7_pass 26 [(0, .ref x0), (1, .int x1), (2, .int x2), (3, .int x3), (4, .int x4)] [] M (qv Q) := by
  refine WP.iload 4 (dg tX7_pass 17 rfl) rfl ?_
  refine WP.aload_n 0 (dg tX7_pass 18 rfl) rfl rfl ?_
  refine WP.getF fX7_29 h0.1 (dg tX7_pass 19 rfl) ?_
  refine WP.iconst (v := 0) (dg tX7_pass 20 rfl) (by decide) ?_
  refine WP.ialdc (k := 0) h0.2.2.2.2.2.2.2.1 (by decide) (by decide) (dg tX7_pass 21 rfl) ?_
  refine WP.icmp_ge (tgt := 81) (dg tX7_pass 22 rfl) (by decide) (fun z => ?_) (fun z => ?_)
  · replace h := h.1 z
    refine WP.iload_n 1 (dg tX7_pass 49 rfl) rfl rfl ?_
    refine WP.iconst (v := 1) (dg tX7_pass 50 rfl) (by decide) ?_
    refine WP.iload_n 3 (dg tX7_pass 51 rfl) rfl rfl ?_
    refine WP.ishl (dg tX7_pass 52 rfl) ?_
    refine WP.ior (dg tX7_pass 53 rfl) ?_
    refine WP.topi (fun v1 e_v1 => ?_)
    have h := h v1 e_v1
    refine WP.istore_n (L2 := [(1, .int v1), (0, .ref x0), (2, .int x2), (3, .int x3), (4, .int x4)]) (dg tX7_pass 54 rfl) rfl (by decide) rfl ?_
    refine WP.aload_n 1 (dg tX7_pass 55 rfl) rfl rfl ?_
    refine WP.iload_n 3 (dg tX7_pass 56 rfl) rfl rfl ?_
    refine WP.callVv (As := [.int x3]) (st := []) vX7_189 h0.1 rfl rfl ⟨Nat.le_of_ble_eq_true rfl, Nat.le_of_ble_eq_true rfl⟩ (Nat.le_of_ble_eq_true rfl) rfl (dg tX7_pass 57 rfl) h (fun M2 h => ?_)
    obtain ⟨v3, e_v3⟩ : ∃ y : Int32, y = x2 + 1 := ⟨_, rfl⟩
    have h := h v3 e_v3
    refine WP.iinc (v := v3) (L2 := [(2, .int v3), (1, .int v1), (0, .ref x0), (3, .int x3), (4, .int x4)]) 2 (dg tX7_pass 58 rfl) rfl (by rw [e_v3]; rfl) (by decide) rfl ?_
    refine WP.goto (tgt := 10) (dg tX7_pass 59 rfl) (by decide) ?_
    refine WP.sub [2, 1, 0] rfl ?_
    exact h
  · replace h := h.2 z
    refine WP.iload_n 1 (dg tX7_pass 23 rfl) rfl rfl ?_
    refine WP.iload 4 (dg tX7_pass 24 rfl) rfl ?_
    refine WP.ishr (dg tX7_pass 25 rfl) ?_
    refine WP.iconst (v := 1) (dg tX7_pass 26 rfl) (by decide) ?_
    refine WP.iand (dg tX7_pass 27 rfl) ?_
    refine WP.if_ne (tgt := 75) (dg tX7_pass 28 rfl) (by decide) (fun z => ?_) (fun z => ?_)
    · replace h := h.1 z
      obtain ⟨v1, e_v1⟩ : ∃ y : Int32, y = x4 + 1 := ⟨_, rfl⟩
      have h := h v1 e_v1
      refine WP.iinc (v := v1) (L2 := [(4, .int v1), (0, .ref x0), (1, .int x1), (2, .int x2), (3, .int x3)]) 4 (dg tX7_pass 47 rfl) rfl (by rw [e_v1]; rfl) (by decide) rfl ?_
      refine WP.goto (tgt := 26) (dg tX7_pass 48 rfl) (by decide) ?_
      refine WP.sub [1, 2, 3, 4, 0] rfl ?_
      exact h
    · replace h := h.2 z
      refine WP.iload_n 3 (dg tX7_pass 29 rfl) rfl rfl ?_
      refine WP.bipush (v := (-9)) (dg tX7_pass 30 rfl) (by decide) ?_
      refine WP.icmp_eq (tgt := 72) (dg tX7_pass 31 rfl) (by decide) (fun z => ?_) (fun z => ?_)
      · replace h := h.1 z
        refine WP.iload 4 (dg tX7_pass 45 rfl) rfl ?_
        refine WP.istore_n (L2 := [(3, .int x4), (0, .ref x0), (1, .int x1), (2, .int x2), (4, .int x4)]) (dg tX7_pass 46 rfl) rfl (by decide) rfl ?_
        obtain ⟨v1, e_v1⟩ : ∃ y : Int32, y = x4 + 1 := ⟨_, rfl⟩
        have h := h v1 e_v1
        refine WP.iinc (v := v1) (L2 := [(4, .int v1), (3, .int x4), (0, .ref x0), (1, .int x1), (2, .int x2)]) 4 (dg tX7_pass 47 rfl) rfl (by rw [e_v1]; rfl) (by decide) rfl ?_
        refine WP.goto (tgt := 26) (dg tX7_pass 48 rfl) (by decide) ?_
        refine WP.sub [2, 3, 4, 1, 0] rfl ?_
        exact h
      · replace h := h.2 z
        refine WP.aload_n 0 (dg tX7_pass 32 rfl) rfl rfl ?_
        refine WP.getF fX7_62 h0.1 (dg tX7_pass 33 rfl) ?_
        refine WP.iconst (v := 1) (dg tX7_pass 34 rfl) (by decide) ?_
        refine WP.iload 4 (dg tX7_pass 35 rfl) rfl ?_
        refine WP.iadd (dg tX7_pass 36 rfl) ?_
        obtain ⟨hb60, h⟩ := h
        refine WP.iald h0.2.2.2.2.2.2.2.2.2.2.2.2.2.2.2.2.2.2.1 hb60 (dg tX7_pass 37 rfl) ?_
        refine WP.aload_n 0 (dg tX7_pass 38 rfl) rfl rfl ?_
        refine WP.getF fX7_62 h0.1 (dg tX7_pass 39 rfl) ?_
        refine WP.iconst (v := 1) (dg tX7_pass 40 rfl) (by decide) ?_
        refine WP.iload_n 3 (dg tX7_pass 41 rfl) rfl rfl ?_
        refine WP.iadd (dg tX7_pass 42 rfl) ?_
        obtain ⟨hb68, h⟩ := h
        refine WP.iald h0.2.2.2.2.2.2.2.2.2.2.2.2.2.2.2.2.2.2.1 hb68 (dg tX7_pass 43 rfl) ?_
        refine WP.icmp_le (tgt := 75) (dg tX7_pass 44 rfl) (by decide) (fun z => ?_) (fun z => ?_)
        · replace h := h.1 z
          obtain ⟨v1, e_v1⟩ : ∃ y : Int32, y = x4 + 1 := ⟨_, rfl⟩
          have h := h v1 e_v1
          refine WP.iinc (v := v1) (L2 := [(4, .int v1), (0, .ref x0), (1, .int x1), (2, .int x2), (3, .int x3)]) 4 (dg tX7_pass 47 rfl) rfl (by rw [e_v1]; rfl) (by decide) rfl ?_
          refine WP.goto (tgt := 26) (dg tX7_pass 48 rfl) (by decide) ?_
          refine WP.sub [1, 2, 3, 4, 0] rfl ?_
          exact h
        · replace h := h.2 z
          refine WP.iload 4 (dg tX7_pass 45 rfl) rfl ?_
          refine WP.istore_n (L2 := [(3, .int x4), (0, .ref x0), (1, .int x1), (2, .int x2), (4, .int x4)]) (dg tX7_pass 46 rfl) rfl (by decide) rfl ?_
          obtain ⟨v1, e_v1⟩ : ∃ y : Int32, y = x4 + 1 := ⟨_, rfl⟩
          have h := h v1 e_v1
          refine WP.iinc (v := v1) (L2 := [(4, .int v1), (3, .int x4), (0, .ref x0), (1, .int x1), (2, .int x2)]) 4 (dg tX7_pass 47 rfl) rfl (by rw [e_v1]; rfl) (by decide) rfl ?_
          refine WP.goto (tgt := 26) (dg tX7_pass 48 rfl) (by decide) ?_
          refine WP.sub [2, 3, 4, 1, 0] rfl ?_
          exact h
theorem sg_X7_know_0 {T : Th} {M : Mm} {Q : Mm → Prop} {x0 : Nat} (h0 : isX7 T x0)
    (h : (¬ (M.1 (x0 + 17) 31) = 10 → WP T mX7_know 58 [(0, .ref x0), (1, .int 0)] [] M (qv Q)) ∧ ((M.1 (x0 + 17) 31) = 10 → WP T mX7_know 14 [(0, .ref x0), (1, .int 0)] [] M (qv Q))) :
    WP T mX7_know 0 [(0, .ref x0)] [] M (qv Q) := by
  refine WP.aload_n 0 (dg tX7_know 0 rfl) rfl rfl ?_
  refine WP.getF fX7_59 h0.1 (dg tX7_know 1 rfl) ?_
  refine WP.bipush (v := 31) (dg tX7_know 2 rfl) (by decide) ?_
  refine WP.ialdc (k := 31) h0.2.2.2.2.2.2.2.2.2.2.2.2.2.2.2.2.2.1 (by decide) (by decide) (dg tX7_know 3 rfl) ?_
  refine WP.bipush (v := 10) (dg tX7_know 4 rfl) (by decide) ?_
  refine WP.icmp_ne (tgt := 56) (dg tX7_know 5 rfl) (by decide) (fun z => ?_) (fun z => ?_)
  · replace h := h.1 z
    refine WP.iconst (v := 0) (dg tX7_know 33 rfl) (by decide) ?_
    refine WP.istore_n (L2 := [(1, .int 0), (0, .ref x0)]) (dg tX7_know 34 rfl) rfl (by decide) rfl ?_
    refine WP.sub [1, 0] rfl ?_
    exact h
  · replace h := h.2 z
    refine WP.iconst (v := 0) (dg tX7_know 6 rfl) (by decide) ?_
    refine WP.istore_n (L2 := [(1, .int 0), (0, .ref x0)]) (dg tX7_know 7 rfl) rfl (by decide) rfl ?_
    refine WP.sub [1, 0] rfl ?_
    exact h
theorem sg_X7_know_58 {T : Th} {M : Mm} {Q : Mm → Prop} {x0 : Nat} {x1 : Int32} (h0 : isX7 T x0)
    (h : (31 ≤ x1 → ∀ M1 : Mm, M1 = sI M (x0 + 17) 31 ((M.1 (x0 + 17) 31) + 1) → Q M1) ∧ (¬ 31 ≤ x1 → vp_in x1 1026 ∧ (vp_in ((32 + (31 * (M.1 (x0 + 17) 31))) + x1) 1026 ∧ (∀ M1 : Mm, M1 = sI M (x0 + 17) ((32 + (31 * (M.1 (x0 + 17) 31))) + x1).toNatClampNeg (M.1 (x0 + 17) x1.toNatClampNeg) → ∀ v2 : Int32, v2 = x1 + 1 → WP T mX7_know 58 [(0, .ref x0), (1, .int v2)] [] M1 (qv Q))))) :
    WP T mX7_know 58 [(0, .ref x0), (1, .int x1)] [] M (qv Q) := by
  refine WP.iload_n 1 (dg tX7_know 35 rfl) rfl rfl ?_
  refine WP.bipush (v := 31) (dg tX7_know 36 rfl) (by decide) ?_
  refine WP.icmp_ge (tgt := 96) (dg tX7_know 37 rfl) (by decide) (fun z => ?_) (fun z => ?_)
  · replace h := h.1 z
    refine WP.aload_n 0 (dg tX7_know 57 rfl) rfl rfl ?_
    refine WP.getF fX7_59 h0.1 (dg tX7_know 58 rfl) ?_
    refine WP.bipush (v := 31) (dg tX7_know 59 rfl) (by decide) ?_
    refine WP.dup2 (dg tX7_know 60 rfl) rfl rfl ?_
    refine WP.ialdc (k := 31) h0.2.2.2.2.2.2.2.2.2.2.2.2.2.2.2.2.2.1 (by decide) (by decide) (dg tX7_know 61 rfl) ?_
    refine WP.iconst (v := 1) (dg tX7_know 62 rfl) (by decide) ?_
    refine WP.iadd (dg tX7_know 63 rfl) ?_
    refine WP.iastc (k := 31) h0.2.2.2.2.2.2.2.2.2.2.2.2.2.2.2.2.2.1 (by decide) (by decide) (dg tX7_know 64 rfl) (fun M1 e_M1 => ?_)
    have h := h M1 e_M1
    exact WP.vret rfl (dg tX7_know 65 rfl) ⟨rfl, h⟩
  · replace h := h.2 z
    refine WP.aload_n 0 (dg tX7_know 38 rfl) rfl rfl ?_
    refine WP.getF fX7_59 h0.1 (dg tX7_know 39 rfl) ?_
    refine WP.bipush (v := 32) (dg tX7_know 40 rfl) (by decide) ?_
    refine WP.bipush (v := 31) (dg tX7_know 41 rfl) (by decide) ?_
    refine WP.aload_n 0 (dg tX7_know 42 rfl) rfl rfl ?_
    refine WP.getF fX7_59 h0.1 (dg tX7_know 43 rfl) ?_
    refine WP.bipush (v := 31) (dg tX7_know 44 rfl) (by decide) ?_
    refine WP.ialdc (k := 31) h0.2.2.2.2.2.2.2.2.2.2.2.2.2.2.2.2.2.1 (by decide) (by decide) (dg tX7_know 45 rfl) ?_
    refine WP.imul (dg tX7_know 46 rfl) ?_
    refine WP.iadd (dg tX7_know 47 rfl) ?_
    refine WP.iload_n 1 (dg tX7_know 48 rfl) rfl rfl ?_
    refine WP.iadd (dg tX7_know 49 rfl) ?_
    refine WP.aload_n 0 (dg tX7_know 50 rfl) rfl rfl ?_
    refine WP.getF fX7_59 h0.1 (dg tX7_know 51 rfl) ?_
    refine WP.iload_n 1 (dg tX7_know 52 rfl) rfl rfl ?_
    obtain ⟨hb88, h⟩ := h
    refine WP.iald h0.2.2.2.2.2.2.2.2.2.2.2.2.2.2.2.2.2.1 hb88 (dg tX7_know 53 rfl) ?_
    obtain ⟨hb89, h⟩ := h
    refine WP.iast h0.2.2.2.2.2.2.2.2.2.2.2.2.2.2.2.2.2.1 hb89 (dg tX7_know 54 rfl) (fun M1 e_M1 => ?_)
    have h := h M1 e_M1
    obtain ⟨v2, e_v2⟩ : ∃ y : Int32, y = x1 + 1 := ⟨_, rfl⟩
    have h := h v2 e_v2
    refine WP.iinc (v := v2) (L2 := [(1, .int v2), (0, .ref x0)]) 1 (dg tX7_know 55 rfl) rfl (by rw [e_v2]; rfl) (by decide) rfl ?_
    refine WP.goto (tgt := 58) (dg tX7_know 56 rfl) (by decide) ?_
    refine WP.sub [1, 0] rfl ?_
    exact h
theorem sg_X7_know_14 {T : Th} {M : Mm} {Q : Mm → Prop} {x0 : Nat} {x1 : Int32} (h0 : isX7 T x0)
    (h : (279 ≤ x1 → ∀ M1 : Mm, M1 = sI M (x0 + 17) 31 ((M.1 (x0 + 17) 31) - 1) → WP T mX7_know 58 [(0, .ref x0), (1, .int 0)] [] M1 (qv Q)) ∧ (¬ 279 ≤ x1 → vp_in (63 + x1) 1026 ∧ (vp_in (32 + x1) 1026 ∧ (∀ M1 : Mm, M1 = sI M (x0 + 17) (32 + x1).toNatClampNeg (M.1 (x0 + 17) (63 + x1).toNatClampNeg) → ∀ v2 : Int32, v2 = x1 + 1 → WP T mX7_know 14 [(0, .ref x0), (1, .int v2)] [] M1 (qv Q))))) :
    WP T mX7_know 14 [(0, .ref x0), (1, .int x1)] [] M (qv Q) := by
  refine WP.iload_n 1 (dg tX7_know 8 rfl) rfl rfl ?_
  refine WP.sipush (v := 279) (dg tX7_know 9 rfl) (by decide) ?_
  refine WP.icmp_ge (tgt := 45) (dg tX7_know 10 rfl) (by decide) (fun z => ?_) (fun z => ?_)
  · replace h := h.1 z
    refine WP.aload_n 0 (dg tX7_know 25 rfl) rfl rfl ?_
    refine WP.getF fX7_59 h0.1 (dg tX7_know 26 rfl) ?_
    refine WP.bipush (v := 31) (dg tX7_know 27 rfl) (by decide) ?_
    refine WP.dup2 (dg tX7_know 28 rfl) rfl rfl ?_
    refine WP.ialdc (k := 31) h0.2.2.2.2.2.2.2.2.2.2.2.2.2.2.2.2.2.1 (by decide) (by decide) (dg tX7_know 29 rfl) ?_
    refine WP.iconst (v := 1) (dg tX7_know 30 rfl) (by decide) ?_
    refine WP.isub (dg tX7_know 31 rfl) ?_
    refine WP.iastc (k := 31) h0.2.2.2.2.2.2.2.2.2.2.2.2.2.2.2.2.2.1 (by decide) (by decide) (dg tX7_know 32 rfl) (fun M1 e_M1 => ?_)
    have h := h M1 e_M1
    refine WP.iconst (v := 0) (dg tX7_know 33 rfl) (by decide) ?_
    refine WP.istore_n (L2 := [(1, .int 0), (0, .ref x0)]) (dg tX7_know 34 rfl) rfl (by decide) rfl ?_
    refine WP.sub [1, 0] rfl ?_
    exact h
  · replace h := h.2 z
    refine WP.aload_n 0 (dg tX7_know 11 rfl) rfl rfl ?_
    refine WP.getF fX7_59 h0.1 (dg tX7_know 12 rfl) ?_
    refine WP.bipush (v := 32) (dg tX7_know 13 rfl) (by decide) ?_
    refine WP.iload_n 1 (dg tX7_know 14 rfl) rfl rfl ?_
    refine WP.iadd (dg tX7_know 15 rfl) ?_
    refine WP.aload_n 0 (dg tX7_know 16 rfl) rfl rfl ?_
    refine WP.getF fX7_59 h0.1 (dg tX7_know 17 rfl) ?_
    refine WP.bipush (v := 63) (dg tX7_know 18 rfl) (by decide) ?_
    refine WP.iload_n 1 (dg tX7_know 19 rfl) rfl rfl ?_
    refine WP.iadd (dg tX7_know 20 rfl) ?_
    obtain ⟨hb37, h⟩ := h
    refine WP.iald h0.2.2.2.2.2.2.2.2.2.2.2.2.2.2.2.2.2.1 hb37 (dg tX7_know 21 rfl) ?_
    obtain ⟨hb38, h⟩ := h
    refine WP.iast h0.2.2.2.2.2.2.2.2.2.2.2.2.2.2.2.2.2.1 hb38 (dg tX7_know 22 rfl) (fun M1 e_M1 => ?_)
    have h := h M1 e_M1
    obtain ⟨v2, e_v2⟩ : ∃ y : Int32, y = x1 + 1 := ⟨_, rfl⟩
    have h := h v2 e_v2
    refine WP.iinc (v := v2) (L2 := [(1, .int v2), (0, .ref x0)]) 1 (dg tX7_know 23 rfl) rfl (by rw [e_v2]; rfl) (by decide) rfl ?_
    refine WP.goto (tgt := 14) (dg tX7_know 24 rfl) (by decide) ?_
    refine WP.sub [1, 0] rfl ?_
    exact h
theorem sg_X7_minute_0 {T : Th} {M : Mm} {Q : Int32 → Mm → Prop} {x0 : Nat} (h0 : isX7 T x0)
    (h : (¬ (M.1 (x0 + 17) 0) = 999 → WPv T mX7_know [.ref x0] M (fun M1 => WPv T mX7_toThen [.ref x0] M1 (fun M2 => WPv T mX7_pass [.ref x0] M2 (fun M3 => WPv T mX7_toNow [.ref x0] M3 (fun M4 => WPi T mX7_caughtThen [.ref x0] M4 (fun v6 M5 => WPi T mX7_manyOf [.int v6] M5 (fun v8 M7 => Q v8 M7))))))) ∧ ((M.1 (x0 + 17) 0) = 999 → Q (-2) M)) :
    WP T mX7_minute 0 [(0, .ref x0)] [] M (qi Q) := by
  refine WP.aload_n 0 (dg tX7_minute 0 rfl) rfl rfl ?_
  refine WP.getF fX7_59 h0.1 (dg tX7_minute 1 rfl) ?_
  refine WP.iconst (v := 0) (dg tX7_minute 2 rfl) (by decide) ?_
  refine WP.ialdc (k := 0) h0.2.2.2.2.2.2.2.2.2.2.2.2.2.2.2.2.2.1 (by decide) (by decide) (dg tX7_minute 3 rfl) ?_
  refine WP.sipush (v := 999) (dg tX7_minute 4 rfl) (by decide) ?_
  refine WP.icmp_ne (tgt := 15) (dg tX7_minute 5 rfl) (by decide) (fun z => ?_) (fun z => ?_)
  · replace h := h.1 z
    refine WP.aload_n 0 (dg tX7_minute 8 rfl) rfl rfl ?_
    refine WP.callVv (As := []) (st := []) vX7_192 h0.1 rfl rfl ⟨Nat.le_of_ble_eq_true rfl, Nat.le_of_ble_eq_true rfl⟩ (Nat.le_of_ble_eq_true rfl) rfl (dg tX7_minute 9 rfl) h (fun M1 h => ?_)
    refine WP.aload_n 0 (dg tX7_minute 10 rfl) rfl rfl ?_
    refine WP.callVv (As := []) (st := []) vX7_177 h0.1 rfl rfl ⟨Nat.le_of_ble_eq_true rfl, Nat.le_of_ble_eq_true rfl⟩ (Nat.le_of_ble_eq_true rfl) rfl (dg tX7_minute 11 rfl) h (fun M2 h => ?_)
    refine WP.aload_n 0 (dg tX7_minute 12 rfl) rfl rfl ?_
    refine WP.callVv (As := []) (st := []) vX7_195 h0.1 rfl rfl ⟨Nat.le_of_ble_eq_true rfl, Nat.le_of_ble_eq_true rfl⟩ (Nat.le_of_ble_eq_true rfl) rfl (dg tX7_minute 13 rfl) h (fun M3 h => ?_)
    refine WP.aload_n 0 (dg tX7_minute 14 rfl) rfl rfl ?_
    refine WP.callVv (As := []) (st := []) vX7_167 h0.1 rfl rfl ⟨Nat.le_of_ble_eq_true rfl, Nat.le_of_ble_eq_true rfl⟩ (Nat.le_of_ble_eq_true rfl) rfl (dg tX7_minute 15 rfl) h (fun M4 h => ?_)
    refine WP.aload_n 0 (dg tX7_minute 16 rfl) rfl rfl ?_
    refine WP.callVi (As := []) (st := []) vX7_180 h0.1 rfl rfl ⟨Nat.le_of_ble_eq_true rfl, Nat.le_of_ble_eq_true rfl⟩ (Nat.le_of_ble_eq_true rfl) rfl (dg tX7_minute 17 rfl) h (fun v6 M5 h => ?_)
    refine WP.callSi (As := [.int v6]) (st := []) vX7_198 rfl ⟨Nat.le_of_ble_eq_true rfl, Nat.le_of_ble_eq_true rfl⟩ (Nat.le_of_ble_eq_true rfl) rfl (dg tX7_minute 18 rfl) h (fun v8 M7 h => ?_)
    exact WP.iret rfl (dg tX7_minute 19 rfl) ⟨_, rfl, h⟩
  · replace h := h.2 z
    refine WP.bipush (v := (-2)) (dg tX7_minute 6 rfl) (by decide) ?_
    exact WP.iret rfl (dg tX7_minute 7 rfl) ⟨_, rfl, h⟩
theorem sg_X7_stand_0 {T : Th} {M : Mm} {Q : Int32 → Mm → Prop} {x0 : Nat} {x1 : Int32} {x2 : Int32} (h0 : isX7 T x0)
    (h : WPi T mX7_isWagon [.ref x0, .int x1] M (fun v2 M1 => (v2 = 0 → Q (-1) M1) ∧ (¬ v2 = 0 → WPi T mX7_in [.int x2, .int 1, .int 30] M1 (fun v4 M3 => (¬ v4 = 0 → vp_in (21 + x1) 1026 ∧ (((M3.1 (x0 + 17) (21 + x1).toNatClampNeg) = 1 → Q (-2) M3) ∧ (¬ (M3.1 (x0 + 17) (21 + x1).toNatClampNeg) = 1 → vp_in (11 + x1) 1026 ∧ ((((M3.1 (x0 + 17) (11 + x1).toNatClampNeg) + x2) ≤ 99 → WPv T mX7_know [.ref x0] M3 (fun M5 => vp_in (11 + x1) 1026 ∧ (vp_in (11 + x1) 1026 ∧ (∀ M6 : Mm, M6 = sI M5 (x0 + 17) (11 + x1).toNatClampNeg ((M5.1 (x0 + 17) (11 + x1).toNatClampNeg) + x2) → vp_in (11 + x1) 1026 ∧ (Q (M6.1 (x0 + 17) (11 + x1).toNatClampNeg) M6))))) ∧ (¬ ((M3.1 (x0 + 17) (11 + x1).toNatClampNeg) + x2) ≤ 99 → Q (-2) M3))))) ∧ (v4 = 0 → Q (-1) M3))))) :
    WP T mX7_stand 0 [(0, .ref x0), (1, .int x1), (2, .int x2)] [] M (qi Q) := by
  refine WP.aload_n 0 (dg tX7_stand 0 rfl) rfl rfl ?_
  refine WP.iload_n 1 (dg tX7_stand 1 rfl) rfl rfl ?_
  refine WP.callVi (As := [.int x1]) (st := []) vX7_170 h0.1 rfl rfl ⟨Nat.le_of_ble_eq_true rfl, Nat.le_of_ble_eq_true rfl⟩ (Nat.le_of_ble_eq_true rfl) rfl (dg tX7_stand 2 rfl) h (fun v2 M1 h => ?_)
  refine WP.if_eq (tgt := 18) (dg tX7_stand 3 rfl) (by decide) (fun z => ?_) (fun z => ?_)
  · replace h := h.1 z
    refine WP.iconst (v := (-1)) (dg tX7_stand 9 rfl) (by decide) ?_
    exact WP.iret rfl (dg tX7_stand 10 rfl) ⟨_, rfl, h⟩
  · replace h := h.2 z
    refine WP.iload_n 2 (dg tX7_stand 4 rfl) rfl rfl ?_
    refine WP.iconst (v := 1) (dg tX7_stand 5 rfl) (by decide) ?_
    refine WP.bipush (v := 30) (dg tX7_stand 6 rfl) (by decide) ?_
    refine WP.callSi (As := [.int x2, .int 1, .int 30]) (st := []) vX7_88 rfl ⟨Nat.le_of_ble_eq_true rfl, Nat.le_of_ble_eq_true rfl⟩ (Nat.le_of_ble_eq_true rfl) rfl (dg tX7_stand 7 rfl) h (fun v4 M3 h => ?_)
    refine WP.if_ne (tgt := 20) (dg tX7_stand 8 rfl) (by decide) (fun z => ?_) (fun z => ?_)
    · replace h := h.1 z
      refine WP.aload_n 0 (dg tX7_stand 11 rfl) rfl rfl ?_
      refine WP.getF fX7_59 h0.1 (dg tX7_stand 12 rfl) ?_
      refine WP.bipush (v := 21) (dg tX7_stand 13 rfl) (by decide) ?_
      refine WP.iload_n 1 (dg tX7_stand 14 rfl) rfl rfl ?_
      refine WP.iadd (dg tX7_stand 15 rfl) ?_
      obtain ⟨hb28, h⟩ := h
      refine WP.iald h0.2.2.2.2.2.2.2.2.2.2.2.2.2.2.2.2.2.1 hb28 (dg tX7_stand 16 rfl) ?_
      refine WP.iconst (v := 1) (dg tX7_stand 17 rfl) (by decide) ?_
      refine WP.icmp_eq (tgt := 49) (dg tX7_stand 18 rfl) (by decide) (fun z => ?_) (fun z => ?_)
      · replace h := h.1 z
        refine WP.bipush (v := (-2)) (dg tX7_stand 29 rfl) (by decide) ?_
        exact WP.iret rfl (dg tX7_stand 30 rfl) ⟨_, rfl, h⟩
      · replace h := h.2 z
        refine WP.aload_n 0 (dg tX7_stand 19 rfl) rfl rfl ?_
        refine WP.getF fX7_59 h0.1 (dg tX7_stand 20 rfl) ?_
        refine WP.bipush (v := 11) (dg tX7_stand 21 rfl) (by decide) ?_
        refine WP.iload_n 1 (dg tX7_stand 22 rfl) rfl rfl ?_
        refine WP.iadd (dg tX7_stand 23 rfl) ?_
        obtain ⟨hb41, h⟩ := h
        refine WP.iald h0.2.2.2.2.2.2.2.2.2.2.2.2.2.2.2.2.2.1 hb41 (dg tX7_stand 24 rfl) ?_
        refine WP.iload_n 2 (dg tX7_stand 25 rfl) rfl rfl ?_
        refine WP.iadd (dg tX7_stand 26 rfl) ?_
        refine WP.bipush (v := 99) (dg tX7_stand 27 rfl) (by decide) ?_
        refine WP.icmp_le (tgt := 52) (dg tX7_stand 28 rfl) (by decide) (fun z => ?_) (fun z => ?_)
        · replace h := h.1 z
          refine WP.aload_n 0 (dg tX7_stand 31 rfl) rfl rfl ?_
          refine WP.callVv (As := []) (st := []) vX7_192 h0.1 rfl rfl ⟨Nat.le_of_ble_eq_true rfl, Nat.le_of_ble_eq_true rfl⟩ (Nat.le_of_ble_eq_true rfl) rfl (dg tX7_stand 32 rfl) h (fun M5 h => ?_)
          refine WP.aload_n 0 (dg tX7_stand 33 rfl) rfl rfl ?_
          refine WP.getF fX7_59 h0.1 (dg tX7_stand 34 rfl) ?_
          refine WP.bipush (v := 11) (dg tX7_stand 35 rfl) (by decide) ?_
          refine WP.iload_n 1 (dg tX7_stand 36 rfl) rfl rfl ?_
          refine WP.iadd (dg tX7_stand 37 rfl) ?_
          refine WP.dup2 (dg tX7_stand 38 rfl) rfl rfl ?_
          obtain ⟨hb65, h⟩ := h
          refine WP.iald h0.2.2.2.2.2.2.2.2.2.2.2.2.2.2.2.2.2.1 hb65 (dg tX7_stand 39 rfl) ?_
          refine WP.iload_n 2 (dg tX7_stand 40 rfl) rfl rfl ?_
          refine WP.iadd (dg tX7_stand 41 rfl) ?_
          obtain ⟨hb68, h⟩ := h
          refine WP.iast h0.2.2.2.2.2.2.2.2.2.2.2.2.2.2.2.2.2.1 hb68 (dg tX7_stand 42 rfl) (fun M6 e_M6 => ?_)
          have h := h M6 e_M6
          refine WP.aload_n 0 (dg tX7_stand 43 rfl) rfl rfl ?_
          refine WP.getF fX7_59 h0.1 (dg tX7_stand 44 rfl) ?_
          refine WP.bipush (v := 11) (dg tX7_stand 45 rfl) (by decide) ?_
          refine WP.iload_n 1 (dg tX7_stand 46 rfl) rfl rfl ?_
          refine WP.iadd (dg tX7_stand 47 rfl) ?_
          obtain ⟨hb77, h⟩ := h
          refine WP.iald h0.2.2.2.2.2.2.2.2.2.2.2.2.2.2.2.2.2.1 hb77 (dg tX7_stand 48 rfl) ?_
          exact WP.iret rfl (dg tX7_stand 49 rfl) ⟨_, rfl, h⟩
        · replace h := h.2 z
          refine WP.bipush (v := (-2)) (dg tX7_stand 29 rfl) (by decide) ?_
          exact WP.iret rfl (dg tX7_stand 30 rfl) ⟨_, rfl, h⟩
    · replace h := h.2 z
      refine WP.iconst (v := (-1)) (dg tX7_stand 9 rfl) (by decide) ?_
      exact WP.iret rfl (dg tX7_stand 10 rfl) ⟨_, rfl, h⟩
theorem sg_X7_isThere_0 {T : Th} {M : Mm} {Q : Int32 → Mm → Prop} {x0 : Nat} {x1 : Int32} {x2 : Int32} (h0 : isX7 T x0)
    (h : WP T mX7_isThere 5 [(0, .ref x0), (1, .int x1), (2, .int x2), (3, .int 0), (4, .int 0)] [] M (qi Q)) :
    WP T mX7_isThere 0 [(0, .ref x0), (1, .int x1), (2, .int x2)] [] M (qi Q) := by
  refine WP.iconst (v := 0) (dg tX7_isThere 0 rfl) (by decide) ?_
  refine WP.istore_n (L2 := [(3, .int 0), (0, .ref x0), (1, .int x1), (2, .int x2)]) (dg tX7_isThere 1 rfl) rfl (by decide) rfl ?_
  refine WP.iconst (v := 0) (dg tX7_isThere 2 rfl) (by decide) ?_
  refine WP.istore (L2 := [(4, .int 0), (3, .int 0), (0, .ref x0), (1, .int x1), (2, .int x2)]) (dg tX7_isThere 3 rfl) (by decide) rfl ?_
  refine WP.sub [2, 3, 4, 1, 0] rfl ?_
  exact h
theorem sg_X7_isThere_5 {T : Th} {M : Mm} {Q : Int32 → Mm → Prop} {x0 : Nat} {x1 : Int32} {x2 : Int32} {x3 : Int32} {x4 : Int32} (h0 : isX7 T x0)
    (h : ((M.1 (x0 + 7) 0) ≤ x4 → (x3 = 0 ∨ x3 = 1) ∧ Q x3 M) ∧ (¬ (M.1 (x0 + 7) 0) ≤ x4 → (¬ x3 = 0 → ∀ v1 : Int32, v1 = x4 + 1 → WP T mX7_isThere 5 [(0, .ref x0), (1, .int x1), (2, .int x2), (3, .int 1), (4, .int v1)] [] M (qi Q)) ∧ (x3 = 0 → vp_in (1 + x4) 1026 ∧ ((¬ (M.1 (x0 + 17) (1 + x4).toNatClampNeg) = x1 → ∀ v1 : Int32, v1 = x4 + 1 → WP T mX7_isThere 5 [(0, .ref x0), (1, .int x1), (2, .int x2), (3, .int 0), (4, .int v1)] [] M (qi Q)) ∧ ((M.1 (x0 + 17) (1 + x4).toNatClampNeg) = x1 → vp_in (26 + x4) 1026 ∧ ((¬ (M.1 (x0 + 17) (26 + x4).toNatClampNeg) = x2 → ∀ v1 : Int32, v1 = x4 + 1 → WP T mX7_isThere 5 [(0, .ref x0), (1, .int x1), (2, .int x2), (3, .int 0), (4, .int v1)] [] M (qi Q)) ∧ ((M.1 (x0 + 17) (26 + x4).toNatClampNeg) = x2 → ∀ v1 : Int32, v1 = x4 + 1 → WP T mX7_isThere 5 [(0, .ref x0), (1, .int x1), (2, .int x2), (3, .int 1), (4, .int v1)] [] M (qi Q)))))))) :
    WP T mX7_isThere 5 [(0, .ref x0), (1, .int x1), (2, .int x2), (3, .int x3), (4, .int x4)] [] M (qi Q) := by
  refine WP.iload 4 (dg tX7_isThere 4 rfl) rfl ?_
  refine WP.aload_n 0 (dg tX7_isThere 5 rfl) rfl rfl ?_
  refine WP.getF fX7_29 h0.1 (dg tX7_isThere 6 rfl) ?_
  refine WP.iconst (v := 0) (dg tX7_isThere 7 rfl) (by decide) ?_
  refine WP.ialdc (k := 0) h0.2.2.2.2.2.2.2.1 (by decide) (by decide) (dg tX7_isThere 8 rfl) ?_
  refine WP.icmp_ge (tgt := 59) (dg tX7_isThere 9 rfl) (by decide) (fun z => ?_) (fun z => ?_)
  · replace h := h.1 z
    refine WP.iload_n 3 (dg tX7_isThere 34 rfl) rfl rfl ?_
    obtain ⟨hb60, h⟩ := h
    exact WP.zret rfl hb60 (dg tX7_isThere 35 rfl) ⟨_, rfl, h⟩
  · replace h := h.2 z
    refine WP.iload_n 3 (dg tX7_isThere 10 rfl) rfl rfl ?_
    refine WP.if_ne (tgt := 47) (dg tX7_isThere 11 rfl) (by decide) (fun z => ?_) (fun z => ?_)
    · replace h := h.1 z
      refine WP.iconst (v := 1) (dg tX7_isThere 28 rfl) (by decide) ?_
      refine WP.goto (tgt := 52) (dg tX7_isThere 29 rfl) (by decide) ?_
      refine WP.istore_n (L2 := [(3, .int 1), (0, .ref x0), (1, .int x1), (2, .int x2), (4, .int x4)]) (dg tX7_isThere 31 rfl) rfl (by decide) rfl ?_
      obtain ⟨v1, e_v1⟩ : ∃ y : Int32, y = x4 + 1 := ⟨_, rfl⟩
      have h := h v1 e_v1
      refine WP.iinc (v := v1) (L2 := [(4, .int v1), (3, .int 1), (0, .ref x0), (1, .int x1), (2, .int x2)]) 4 (dg tX7_isThere 32 rfl) rfl (by rw [e_v1]; rfl) (by decide) rfl ?_
      refine WP.goto (tgt := 5) (dg tX7_isThere 33 rfl) (by decide) ?_
      refine WP.sub [2, 3, 4, 1, 0] rfl ?_
      exact h
    · replace h := h.2 z
      refine WP.aload_n 0 (dg tX7_isThere 12 rfl) rfl rfl ?_
      refine WP.getF fX7_59 h0.1 (dg tX7_isThere 13 rfl) ?_
      refine WP.iconst (v := 1) (dg tX7_isThere 14 rfl) (by decide) ?_
      refine WP.iload 4 (dg tX7_isThere 15 rfl) rfl ?_
      refine WP.iadd (dg tX7_isThere 16 rfl) ?_
      obtain ⟨hb28, h⟩ := h
      refine WP.iald h0.2.2.2.2.2.2.2.2.2.2.2.2.2.2.2.2.2.1 hb28 (dg tX7_isThere 17 rfl) ?_
      refine WP.iload_n 1 (dg tX7_isThere 18 rfl) rfl rfl ?_
      refine WP.icmp_ne (tgt := 51) (dg tX7_isThere 19 rfl) (by decide) (fun z => ?_) (fun z => ?_)
      · replace h := h.1 z
        refine WP.iconst (v := 0) (dg tX7_isThere 30 rfl) (by decide) ?_
        refine WP.istore_n (L2 := [(3, .int 0), (0, .ref x0), (1, .int x1), (2, .int x2), (4, .int x4)]) (dg tX7_isThere 31 rfl) rfl (by decide) rfl ?_
        obtain ⟨v1, e_v1⟩ : ∃ y : Int32, y = x4 + 1 := ⟨_, rfl⟩
        have h := h v1 e_v1
        refine WP.iinc (v := v1) (L2 := [(4, .int v1), (3, .int 0), (0, .ref x0), (1, .int x1), (2, .int x2)]) 4 (dg tX7_isThere 32 rfl) rfl (by rw [e_v1]; rfl) (by decide) rfl ?_
        refine WP.goto (tgt := 5) (dg tX7_isThere 33 rfl) (by decide) ?_
        refine WP.sub [2, 3, 4, 1, 0] rfl ?_
        exact h
      · replace h := h.2 z
        refine WP.aload_n 0 (dg tX7_isThere 20 rfl) rfl rfl ?_
        refine WP.getF fX7_59 h0.1 (dg tX7_isThere 21 rfl) ?_
        refine WP.bipush (v := 26) (dg tX7_isThere 22 rfl) (by decide) ?_
        refine WP.iload 4 (dg tX7_isThere 23 rfl) rfl ?_
        refine WP.iadd (dg tX7_isThere 24 rfl) ?_
        obtain ⟨hb42, h⟩ := h
        refine WP.iald h0.2.2.2.2.2.2.2.2.2.2.2.2.2.2.2.2.2.1 hb42 (dg tX7_isThere 25 rfl) ?_
        refine WP.iload_n 2 (dg tX7_isThere 26 rfl) rfl rfl ?_
        refine WP.icmp_ne (tgt := 51) (dg tX7_isThere 27 rfl) (by decide) (fun z => ?_) (fun z => ?_)
        · replace h := h.1 z
          refine WP.iconst (v := 0) (dg tX7_isThere 30 rfl) (by decide) ?_
          refine WP.istore_n (L2 := [(3, .int 0), (0, .ref x0), (1, .int x1), (2, .int x2), (4, .int x4)]) (dg tX7_isThere 31 rfl) rfl (by decide) rfl ?_
          obtain ⟨v1, e_v1⟩ : ∃ y : Int32, y = x4 + 1 := ⟨_, rfl⟩
          have h := h v1 e_v1
          refine WP.iinc (v := v1) (L2 := [(4, .int v1), (3, .int 0), (0, .ref x0), (1, .int x1), (2, .int x2)]) 4 (dg tX7_isThere 32 rfl) rfl (by rw [e_v1]; rfl) (by decide) rfl ?_
          refine WP.goto (tgt := 5) (dg tX7_isThere 33 rfl) (by decide) ?_
          refine WP.sub [2, 3, 4, 1, 0] rfl ?_
          exact h
        · replace h := h.2 z
          refine WP.iconst (v := 1) (dg tX7_isThere 28 rfl) (by decide) ?_
          refine WP.goto (tgt := 52) (dg tX7_isThere 29 rfl) (by decide) ?_
          refine WP.istore_n (L2 := [(3, .int 1), (0, .ref x0), (1, .int x1), (2, .int x2), (4, .int x4)]) (dg tX7_isThere 31 rfl) rfl (by decide) rfl ?_
          obtain ⟨v1, e_v1⟩ : ∃ y : Int32, y = x4 + 1 := ⟨_, rfl⟩
          have h := h v1 e_v1
          refine WP.iinc (v := v1) (L2 := [(4, .int v1), (3, .int 1), (0, .ref x0), (1, .int x1), (2, .int x2)]) 4 (dg tX7_isThere 32 rfl) rfl (by rw [e_v1]; rfl) (by decide) rfl ?_
          refine WP.goto (tgt := 5) (dg tX7_isThere 33 rfl) (by decide) ?_
          refine WP.sub [2, 3, 4, 1, 0] rfl ?_
          exact h
theorem sg_X7_change_0 {T : Th} {M : Mm} {Q : Int32 → Mm → Prop} {x0 : Nat} {x1 : Int32} {x2 : Int32} (h0 : isX7 T x0)
    (h : WPi T mX7_isWagon [.ref x0, .int x1] M (fun v2 M1 => (v2 = 0 → Q (-1) M1) ∧ (¬ v2 = 0 → WPi T mX7_in [.int x2, .int 0, .int 2] M1 (fun v4 M3 => (¬ v4 = 0 → vp_in (26 + x1) 1026 ∧ (∀ v5 : Int32, v5 = M3.1 (x0 + 17) (26 + x1).toNatClampNeg → vp_in (1 + x1) 1026 ∧ (¬ (M3.1 (x0 + 2) 0) = 0 ∧ ((¬ (((M3.1 (x0 + 6) 0) >>> (((M3.1 (x0 + 17) (1 + x1).toNatClampNeg) - (M3.1 (x0 + 17) (1 + x1).toNatClampNeg) / (M3.1 (x0 + 2) 0) * (M3.1 (x0 + 2) 0)) &&& 31)) &&& 1) = 1 → WP T mX7_change 62 [(0, .ref x0), (1, .int x1), (2, .int x2), (3, .int v5)] [.int 0] M3 (qi Q)) ∧ ((((M3.1 (x0 + 6) 0) >>> (((M3.1 (x0 + 17) (1 + x1).toNatClampNeg) - (M3.1 (x0 + 17) (1 + x1).toNatClampNeg) / (M3.1 (x0 + 2) 0) * (M3.1 (x0 + 2) 0)) &&& 31)) &&& 1) = 1 → WP T mX7_change 62 [(0, .ref x0), (1, .int x1), (2, .int x2), (3, .int v5)] [.int 1] M3 (qi Q)))))) ∧ (v4 = 0 → Q (-1) M3))))) :
    WP T mX7_change 0 [(0, .ref x0), (1, .int x1), (2, .int x2)] [] M (qi Q) := by
  refine WP.aload_n 0 (dg tX7_change 0 rfl) rfl rfl ?_
  refine WP.iload_n 1 (dg tX7_change 1 rfl) rfl rfl ?_
  refine WP.callVi (As := [.int x1]) (st := []) vX7_170 h0.1 rfl rfl ⟨Nat.le_of_ble_eq_true rfl, Nat.le_of_ble_eq_true rfl⟩ (Nat.le_of_ble_eq_true rfl) rfl (dg tX7_change 2 rfl) h (fun v2 M1 h => ?_)
  refine WP.if_eq (tgt := 17) (dg tX7_change 3 rfl) (by decide) (fun z => ?_) (fun z => ?_)
  · replace h := h.1 z
    refine WP.iconst (v := (-1)) (dg tX7_change 9 rfl) (by decide) ?_
    exact WP.iret rfl (dg tX7_change 10 rfl) ⟨_, rfl, h⟩
  · replace h := h.2 z
    refine WP.iload_n 2 (dg tX7_change 4 rfl) rfl rfl ?_
    refine WP.iconst (v := 0) (dg tX7_change 5 rfl) (by decide) ?_
    refine WP.iconst (v := 2) (dg tX7_change 6 rfl) (by decide) ?_
    refine WP.callSi (As := [.int x2, .int 0, .int 2]) (st := []) vX7_88 rfl ⟨Nat.le_of_ble_eq_true rfl, Nat.le_of_ble_eq_true rfl⟩ (Nat.le_of_ble_eq_true rfl) rfl (dg tX7_change 7 rfl) h (fun v4 M3 h => ?_)
    refine WP.if_ne (tgt := 19) (dg tX7_change 8 rfl) (by decide) (fun z => ?_) (fun z => ?_)
    · replace h := h.1 z
      refine WP.aload_n 0 (dg tX7_change 11 rfl) rfl rfl ?_
      refine WP.getF fX7_59 h0.1 (dg tX7_change 12 rfl) ?_
      refine WP.bipush (v := 26) (dg tX7_change 13 rfl) (by decide) ?_
      refine WP.iload_n 1 (dg tX7_change 14 rfl) rfl rfl ?_
      refine WP.iadd (dg tX7_change 15 rfl) ?_
      obtain ⟨hb27, h⟩ := h
      refine WP.iald h0.2.2.2.2.2.2.2.2.2.2.2.2.2.2.2.2.2.1 hb27 (dg tX7_change 16 rfl) ?_
      refine WP.topi (fun v5 e_v5 => ?_)
      have h := h v5 e_v5
      refine WP.istore_n (L2 := [(3, .int v5), (0, .ref x0), (1, .int x1), (2, .int x2)]) (dg tX7_change 17 rfl) rfl (by decide) rfl ?_
      refine WP.aload_n 1 (dg tX7_change 18 rfl) rfl rfl ?_
      refine WP.getF fX7_26 h0.1 (dg tX7_change 19 rfl) ?_
      refine WP.iconst (v := 0) (dg tX7_change 20 rfl) (by decide) ?_
      refine WP.ialdc (k := 0) h0.2.2.2.2.2.2.1 (by decide) (by decide) (dg tX7_change 21 rfl) ?_
      refine WP.aload_n 1 (dg tX7_change 22 rfl) rfl rfl ?_
      refine WP.getF fX7_59 h0.1 (dg tX7_change 23 rfl) ?_
      refine WP.iconst (v := 1) (dg tX7_change 24 rfl) (by decide) ?_
      refine WP.iload_n 2 (dg tX7_change 25 rfl) rfl rfl ?_
      refine WP.iadd (dg tX7_change 26 rfl) ?_
      obtain ⟨hb42, h⟩ := h
      refine WP.iald h0.2.2.2.2.2.2.2.2.2.2.2.2.2.2.2.2.2.1 hb42 (dg tX7_change 27 rfl) ?_
      refine WP.aload_n 1 (dg tX7_change 28 rfl) rfl rfl ?_
      refine WP.getF fX7_13 h0.1 (dg tX7_change 29 rfl) ?_
      refine WP.iconst (v := 0) (dg tX7_change 30 rfl) (by decide) ?_
      refine WP.ialdc (k := 0) h0.2.2.1 (by decide) (by decide) (dg tX7_change 31 rfl) ?_
      obtain ⟨hz49, h⟩ := h
      refine WP.irem (dg tX7_change 32 rfl) hz49 ?_
      refine WP.ishr (dg tX7_change 33 rfl) ?_
      refine WP.iconst (v := 1) (dg tX7_change 34 rfl) (by decide) ?_
      refine WP.iand (dg tX7_change 35 rfl) ?_
      refine WP.iconst (v := 1) (dg tX7_change 36 rfl) (by decide) ?_
      refine WP.icmp_ne (tgt := 61) (dg tX7_change 37 rfl) (by decide) (fun z => ?_) (fun z => ?_)
      · replace h := h.1 z
        refine WP.iconst (v := 0) (dg tX7_change 40 rfl) (by decide) ?_
        refine WP.sub [1, 2, 3, 0] rfl ?_
        exact h
      · replace h := h.2 z
        refine WP.iconst (v := 1) (dg tX7_change 38 rfl) (by decide) ?_
        refine WP.goto (tgt := 62) (dg tX7_change 39 rfl) (by decide) ?_
        refine WP.sub [1, 2, 3, 0] rfl ?_
        exact h
    · replace h := h.2 z
      refine WP.iconst (v := (-1)) (dg tX7_change 9 rfl) (by decide) ?_
      exact WP.iret rfl (dg tX7_change 10 rfl) ⟨_, rfl, h⟩
theorem sg_X7_change_62 {T : Th} {M : Mm} {Q : Int32 → Mm → Prop} {x0 : Nat} {x1 : Int32} {x2 : Int32} {x3 : Int32} {s0 : Int32} (h0 : isX7 T x0)
    (h : vp_in (21 + x1) 1026 ∧ (((M.1 (x0 + 17) (21 + x1).toNatClampNeg) = 1 → Q (-2) M) ∧ (¬ (M.1 (x0 + 17) (21 + x1).toNatClampNeg) = 1 → (x3 = x2 → Q (-2) M) ∧ (¬ x3 = x2 → (s0 = 0 → Q (-2) M) ∧ (¬ s0 = 0 → vp_in (1 + x1) 1026 ∧ (WPi T mX7_isThere [.ref x0, .int (M.1 (x0 + 17) (1 + x1).toNatClampNeg), .int x2] M (fun v2 M1 => (v2 = 0 → WPv T mX7_know [.ref x0] M1 (fun M3 => vp_in (26 + x1) 1026 ∧ (∀ M4 : Mm, M4 = sI M3 (x0 + 17) (26 + x1).toNatClampNeg x2 → Q x3 M4))) ∧ (¬ v2 = 0 → Q (-2) M1)))))))) :
    WP T mX7_change 62 [(0, .ref x0), (1, .int x1), (2, .int x2), (3, .int x3)] [.int s0] M (qi Q) := by
  refine WP.istore (L2 := [(4, .int s0), (0, .ref x0), (1, .int x1), (2, .int x2), (3, .int x3)]) (dg tX7_change 41 rfl) (by decide) rfl ?_
  refine WP.aload_n 1 (dg tX7_change 42 rfl) rfl rfl ?_
  refine WP.getF fX7_59 h0.1 (dg tX7_change 43 rfl) ?_
  refine WP.bipush (v := 21) (dg tX7_change 44 rfl) (by decide) ?_
  refine WP.iload_n 2 (dg tX7_change 45 rfl) rfl rfl ?_
  refine WP.iadd (dg tX7_change 46 rfl) ?_
  obtain ⟨hb72, h⟩ := h
  refine WP.iald h0.2.2.2.2.2.2.2.2.2.2.2.2.2.2.2.2.2.1 hb72 (dg tX7_change 47 rfl) ?_
  refine WP.iconst (v := 1) (dg tX7_change 48 rfl) (by decide) ?_
  refine WP.icmp_eq (tgt := 103) (dg tX7_change 49 rfl) (by decide) (fun z => ?_) (fun z => ?_)
  · replace h := h.1 z
    refine WP.bipush (v := (-2)) (dg tX7_change 65 rfl) (by decide) ?_
    exact WP.iret rfl (dg tX7_change 66 rfl) ⟨_, rfl, h⟩
  · replace h := h.2 z
    refine WP.iload_n 4 (dg tX7_change 50 rfl) rfl rfl ?_
    refine WP.iload_n 3 (dg tX7_change 51 rfl) rfl rfl ?_
    refine WP.icmp_eq (tgt := 103) (dg tX7_change 52 rfl) (by decide) (fun z => ?_) (fun z => ?_)
    · replace h := h.1 z
      refine WP.bipush (v := (-2)) (dg tX7_change 65 rfl) (by decide) ?_
      exact WP.iret rfl (dg tX7_change 66 rfl) ⟨_, rfl, h⟩
    · replace h := h.2 z
      refine WP.iload 0 (dg tX7_change 53 rfl) rfl ?_
      refine WP.if_eq (tgt := 103) (dg tX7_change 54 rfl) (by decide) (fun z => ?_) (fun z => ?_)
      · replace h := h.1 z
        refine WP.bipush (v := (-2)) (dg tX7_change 65 rfl) (by decide) ?_
        exact WP.iret rfl (dg tX7_change 66 rfl) ⟨_, rfl, h⟩
      · replace h := h.2 z
        refine WP.aload_n 1 (dg tX7_change 55 rfl) rfl rfl ?_
        refine WP.aload_n 1 (dg tX7_change 56 rfl) rfl rfl ?_
        refine WP.getF fX7_59 h0.1 (dg tX7_change 57 rfl) ?_
        refine WP.iconst (v := 1) (dg tX7_change 58 rfl) (by decide) ?_
        refine WP.iload_n 2 (dg tX7_change 59 rfl) rfl rfl ?_
        refine WP.iadd (dg tX7_change 60 rfl) ?_
        obtain ⟨hb95, h⟩ := h
        refine WP.iald h0.2.2.2.2.2.2.2.2.2.2.2.2.2.2.2.2.2.1 hb95 (dg tX7_change 61 rfl) ?_
        refine WP.iload_n 3 (dg tX7_change 62 rfl) rfl rfl ?_
        refine WP.callVi (As := [.int (M.1 (x0 + 17) (1 + x1).toNatClampNeg), .int x2]) (st := []) vX7_201 h0.1 rfl rfl ⟨Nat.le_of_ble_eq_true rfl, Nat.le_of_ble_eq_true rfl⟩ (Nat.le_of_ble_eq_true rfl) rfl (dg tX7_change 63 rfl) h (fun v2 M1 h => ?_)
        refine WP.if_eq (tgt := 106) (dg tX7_change 64 rfl) (by decide) (fun z => ?_) (fun z => ?_)
        · replace h := h.1 z
          refine WP.aload_n 1 (dg tX7_change 67 rfl) rfl rfl ?_
          refine WP.callVv (As := []) (st := []) vX7_192 h0.1 rfl rfl ⟨Nat.le_of_ble_eq_true rfl, Nat.le_of_ble_eq_true rfl⟩ (Nat.le_of_ble_eq_true rfl) rfl (dg tX7_change 68 rfl) h (fun M3 h => ?_)
          refine WP.aload_n 1 (dg tX7_change 69 rfl) rfl rfl ?_
          refine WP.getF fX7_59 h0.1 (dg tX7_change 70 rfl) ?_
          refine WP.bipush (v := 26) (dg tX7_change 71 rfl) (by decide) ?_
          refine WP.iload_n 2 (dg tX7_change 72 rfl) rfl rfl ?_
          refine WP.iadd (dg tX7_change 73 rfl) ?_
          refine WP.iload_n 3 (dg tX7_change 74 rfl) rfl rfl ?_
          obtain ⟨hb119, h⟩ := h
          refine WP.iast h0.2.2.2.2.2.2.2.2.2.2.2.2.2.2.2.2.2.1 hb119 (dg tX7_change 75 rfl) (fun M4 e_M4 => ?_)
          have h := h M4 e_M4
          refine WP.iload_n 4 (dg tX7_change 76 rfl) rfl rfl ?_
          exact WP.iret rfl (dg tX7_change 77 rfl) ⟨_, rfl, h⟩
        · replace h := h.2 z
          refine WP.bipush (v := (-2)) (dg tX7_change 65 rfl) (by decide) ?_
          exact WP.iret rfl (dg tX7_change 66 rfl) ⟨_, rfl, h⟩
theorem sg_X7_undo_0 {T : Th} {M : Mm} {Q : Int32 → Mm → Prop} {x0 : Nat} (h0 : isX7 T x0)
    (h : (¬ (M.1 (x0 + 17) 31) = 0 → ∀ M1 : Mm, M1 = sI M (x0 + 17) 31 ((M.1 (x0 + 17) 31) - 1) → WP T mX7_undo 26 [(0, .ref x0), (1, .int 0)] [] M1 (qi Q)) ∧ ((M.1 (x0 + 17) 31) = 0 → Q (-2) M)) :
    WP T mX7_undo 0 [(0, .ref x0)] [] M (qi Q) := by
  refine WP.aload_n 0 (dg tX7_undo 0 rfl) rfl rfl ?_
  refine WP.getF fX7_59 h0.1 (dg tX7_undo 1 rfl) ?_
  refine WP.bipush (v := 31) (dg tX7_undo 2 rfl) (by decide) ?_
  refine WP.ialdc (k := 31) h0.2.2.2.2.2.2.2.2.2.2.2.2.2.2.2.2.2.1 (by decide) (by decide) (dg tX7_undo 3 rfl) ?_
  refine WP.if_ne (tgt := 13) (dg tX7_undo 4 rfl) (by decide) (fun z => ?_) (fun z => ?_)
  · replace h := h.1 z
    refine WP.aload_n 0 (dg tX7_undo 7 rfl) rfl rfl ?_
    refine WP.getF fX7_59 h0.1 (dg tX7_undo 8 rfl) ?_
    refine WP.bipush (v := 31) (dg tX7_undo 9 rfl) (by decide) ?_
    refine WP.dup2 (dg tX7_undo 10 rfl) rfl rfl ?_
    refine WP.ialdc (k := 31) h0.2.2.2.2.2.2.2.2.2.2.2.2.2.2.2.2.2.1 (by decide) (by decide) (dg tX7_undo 11 rfl) ?_
    refine WP.iconst (v := 1) (dg tX7_undo 12 rfl) (by decide) ?_
    refine WP.isub (dg tX7_undo 13 rfl) ?_
    refine WP.iastc (k := 31) h0.2.2.2.2.2.2.2.2.2.2.2.2.2.2.2.2.2.1 (by decide) (by decide) (dg tX7_undo 14 rfl) (fun M1 e_M1 => ?_)
    have h := h M1 e_M1
    refine WP.iconst (v := 0) (dg tX7_undo 15 rfl) (by decide) ?_
    refine WP.istore_n (L2 := [(1, .int 0), (0, .ref x0)]) (dg tX7_undo 16 rfl) rfl (by decide) rfl ?_
    refine WP.sub [1, 0] rfl ?_
    exact h
  · replace h := h.2 z
    refine WP.bipush (v := (-2)) (dg tX7_undo 5 rfl) (by decide) ?_
    exact WP.iret rfl (dg tX7_undo 6 rfl) ⟨_, rfl, h⟩
theorem sg_X7_undo_26 {T : Th} {M : Mm} {Q : Int32 → Mm → Prop} {x0 : Nat} {x1 : Int32} (h0 : isX7 T x0)
    (h : (31 ≤ x1 → Q (M.1 (x0 + 17) 31) M) ∧ (¬ 31 ≤ x1 → vp_in ((32 + (31 * (M.1 (x0 + 17) 31))) + x1) 1026 ∧ (vp_in x1 1026 ∧ (∀ M1 : Mm, M1 = sI M (x0 + 17) x1.toNatClampNeg (M.1 (x0 + 17) ((32 + (31 * (M.1 (x0 + 17) 31))) + x1).toNatClampNeg) → ∀ v2 : Int32, v2 = x1 + 1 → WP T mX7_undo 26 [(0, .ref x0), (1, .int v2)] [] M1 (qi Q))))) :
    WP T mX7_undo 26 [(0, .ref x0), (1, .int x1)] [] M (qi Q) := by
  refine WP.iload_n 1 (dg tX7_undo 17 rfl) rfl rfl ?_
  refine WP.bipush (v := 31) (dg tX7_undo 18 rfl) (by decide) ?_
  refine WP.icmp_ge (tgt := 64) (dg tX7_undo 19 rfl) (by decide) (fun z => ?_) (fun z => ?_)
  · replace h := h.1 z
    refine WP.aload_n 0 (dg tX7_undo 39 rfl) rfl rfl ?_
    refine WP.getF fX7_59 h0.1 (dg tX7_undo 40 rfl) ?_
    refine WP.bipush (v := 31) (dg tX7_undo 41 rfl) (by decide) ?_
    refine WP.ialdc (k := 31) h0.2.2.2.2.2.2.2.2.2.2.2.2.2.2.2.2.2.1 (by decide) (by decide) (dg tX7_undo 42 rfl) ?_
    exact WP.iret rfl (dg tX7_undo 43 rfl) ⟨_, rfl, h⟩
  · replace h := h.2 z
    refine WP.aload_n 0 (dg tX7_undo 20 rfl) rfl rfl ?_
    refine WP.getF fX7_59 h0.1 (dg tX7_undo 21 rfl) ?_
    refine WP.iload_n 1 (dg tX7_undo 22 rfl) rfl rfl ?_
    refine WP.aload_n 0 (dg tX7_undo 23 rfl) rfl rfl ?_
    refine WP.getF fX7_59 h0.1 (dg tX7_undo 24 rfl) ?_
    refine WP.bipush (v := 32) (dg tX7_undo 25 rfl) (by decide) ?_
    refine WP.bipush (v := 31) (dg tX7_undo 26 rfl) (by decide) ?_
    refine WP.aload_n 0 (dg tX7_undo 27 rfl) rfl rfl ?_
    refine WP.getF fX7_59 h0.1 (dg tX7_undo 28 rfl) ?_
    refine WP.bipush (v := 31) (dg tX7_undo 29 rfl) (by decide) ?_
    refine WP.ialdc (k := 31) h0.2.2.2.2.2.2.2.2.2.2.2.2.2.2.2.2.2.1 (by decide) (by decide) (dg tX7_undo 30 rfl) ?_
    refine WP.imul (dg tX7_undo 31 rfl) ?_
    refine WP.iadd (dg tX7_undo 32 rfl) ?_
    refine WP.iload_n 1 (dg tX7_undo 33 rfl) rfl rfl ?_
    refine WP.iadd (dg tX7_undo 34 rfl) ?_
    obtain ⟨hb56, h⟩ := h
    refine WP.iald h0.2.2.2.2.2.2.2.2.2.2.2.2.2.2.2.2.2.1 hb56 (dg tX7_undo 35 rfl) ?_
    obtain ⟨hb57, h⟩ := h
    refine WP.iast h0.2.2.2.2.2.2.2.2.2.2.2.2.2.2.2.2.2.1 hb57 (dg tX7_undo 36 rfl) (fun M1 e_M1 => ?_)
    have h := h M1 e_M1
    obtain ⟨v2, e_v2⟩ : ∃ y : Int32, y = x1 + 1 := ⟨_, rfl⟩
    have h := h v2 e_v2
    refine WP.iinc (v := v2) (L2 := [(1, .int v2), (0, .ref x0)]) 1 (dg tX7_undo 37 rfl) rfl (by rw [e_v2]; rfl) (by decide) rfl ?_
    refine WP.goto (tgt := 26) (dg tX7_undo 38 rfl) (by decide) ?_
    refine WP.sub [1, 0] rfl ?_
    exact h
theorem sg_X7_passMany_0 {T : Th} {M : Mm} {Q : Mm → Prop} {x0 : Nat} {x1 : Int32} (h0 : isX7 T x0)
    (h : WP T mX7_passMany 2 [(0, .ref x0), (1, .int x1), (2, .int 0)] [] M (qv Q)) :
    WP T mX7_passMany 0 [(0, .ref x0), (1, .int x1)] [] M (qv Q) := by
  refine WP.iconst (v := 0) (dg tX7_passMany 0 rfl) (by decide) ?_
  refine WP.istore_n (L2 := [(2, .int 0), (0, .ref x0), (1, .int x1)]) (dg tX7_passMany 1 rfl) rfl (by decide) rfl ?_
  refine WP.sub [1, 2, 0] rfl ?_
  exact h
theorem sg_X7_passMany_2 {T : Th} {M : Mm} {Q : Mm → Prop} {x0 : Nat} {x1 : Int32} {x2 : Int32} (h0 : isX7 T x0)
    (h : (x1 ≤ x2 → Q M) ∧ (¬ x1 ≤ x2 → WPv T mX7_pass [.ref x0] M (fun M1 => ∀ v2 : Int32, v2 = x2 + 1 → WP T mX7_passMany 2 [(0, .ref x0), (1, .int x1), (2, .int v2)] [] M1 (qv Q)))) :
    WP T mX7_passMany 2 [(0, .ref x0), (1, .int x1), (2, .int x2)] [] M (qv Q) := by
  refine WP.iload_n 2 (dg tX7_passMany 2 rfl) rfl rfl ?_
  refine WP.iload_n 1 (dg tX7_passMany 3 rfl) rfl rfl ?_
  refine WP.icmp_ge (tgt := 17) (dg tX7_passMany 4 rfl) (by decide) (fun z => ?_) (fun z => ?_)
  · replace h := h.1 z
    exact WP.vret rfl (dg tX7_passMany 9 rfl) ⟨rfl, h⟩
  · replace h := h.2 z
    refine WP.aload_n 0 (dg tX7_passMany 5 rfl) rfl rfl ?_
    refine WP.callVv (As := []) (st := []) vX7_195 h0.1 rfl rfl ⟨Nat.le_of_ble_eq_true rfl, Nat.le_of_ble_eq_true rfl⟩ (Nat.le_of_ble_eq_true rfl) rfl (dg tX7_passMany 6 rfl) h (fun M1 h => ?_)
    obtain ⟨v2, e_v2⟩ : ∃ y : Int32, y = x2 + 1 := ⟨_, rfl⟩
    have h := h v2 e_v2
    refine WP.iinc (v := v2) (L2 := [(2, .int v2), (0, .ref x0), (1, .int x1)]) 2 (dg tX7_passMany 7 rfl) rfl (by rw [e_v2]; rfl) (by decide) rfl ?_
    refine WP.goto (tgt := 2) (dg tX7_passMany 8 rfl) (by decide) ?_
    refine WP.sub [1, 2, 0] rfl ?_
    exact h
theorem sg_X7_behind_0 {T : Th} {M : Mm} {Q : Int32 → Mm → Prop} {x0 : Nat} {x1 : Int32} {x2 : Int32} {x3 : Int32} (h0 : isX7 T x0)
    (h : WPi T mX7_in [.int x1, .int 0, .int 60] M (fun v2 M1 => (v2 = 0 → Q (-1) M1) ∧ (¬ v2 = 0 → WPi T mX7_isWagon [.ref x0, .int x2] M1 (fun v4 M3 => (v4 = 0 → Q (-1) M3) ∧ (¬ v4 = 0 → WPi T mX7_in [.int x3, .int 0, .int 1] M3 (fun v6 M5 => (¬ v6 = 0 → WPv T mX7_toThen [.ref x0] M5 (fun M7 => WPv T mX7_passMany [.ref x0, .int x1] M7 (fun M8 => (¬ x3 = 0 → vp_in (21 + x2) 31 ∧ (Q (M8.1 (x0 + 18) (21 + x2).toNatClampNeg) M8)) ∧ (x3 = 0 → vp_in (1 + x2) 31 ∧ (Q (M8.1 (x0 + 18) (1 + x2).toNatClampNeg) M8))))) ∧ (v6 = 0 → Q (-1) M5))))))) :
    WP T mX7_behind 0 [(0, .ref x0), (1, .int x1), (2, .int x2), (3, .int x3)] [] M (qi Q) := by
  refine WP.iload_n 1 (dg tX7_behind 0 rfl) rfl rfl ?_
  refine WP.iconst (v := 0) (dg tX7_behind 1 rfl) (by decide) ?_
  refine WP.bipush (v := 60) (dg tX7_behind 2 rfl) (by decide) ?_
  refine WP.callSi (As := [.int x1, .int 0, .int 60]) (st := []) vX7_88 rfl ⟨Nat.le_of_ble_eq_true rfl, Nat.le_of_ble_eq_true rfl⟩ (Nat.le_of_ble_eq_true rfl) rfl (dg tX7_behind 3 rfl) h (fun v2 M1 h => ?_)
  refine WP.if_eq (tgt := 27) (dg tX7_behind 4 rfl) (by decide) (fun z => ?_) (fun z => ?_)
  · replace h := h.1 z
    refine WP.iconst (v := (-1)) (dg tX7_behind 14 rfl) (by decide) ?_
    exact WP.iret rfl (dg tX7_behind 15 rfl) ⟨_, rfl, h⟩
  · replace h := h.2 z
    refine WP.aload_n 0 (dg tX7_behind 5 rfl) rfl rfl ?_
    refine WP.iload_n 2 (dg tX7_behind 6 rfl) rfl rfl ?_
    refine WP.callVi (As := [.int x2]) (st := []) vX7_170 h0.1 rfl rfl ⟨Nat.le_of_ble_eq_true rfl, Nat.le_of_ble_eq_true rfl⟩ (Nat.le_of_ble_eq_true rfl) rfl (dg tX7_behind 7 rfl) h (fun v4 M3 h => ?_)
    refine WP.if_eq (tgt := 27) (dg tX7_behind 8 rfl) (by decide) (fun z => ?_) (fun z => ?_)
    · replace h := h.1 z
      refine WP.iconst (v := (-1)) (dg tX7_behind 14 rfl) (by decide) ?_
      exact WP.iret rfl (dg tX7_behind 15 rfl) ⟨_, rfl, h⟩
    · replace h := h.2 z
      refine WP.iload_n 3 (dg tX7_behind 9 rfl) rfl rfl ?_
      refine WP.iconst (v := 0) (dg tX7_behind 10 rfl) (by decide) ?_
      refine WP.iconst (v := 1) (dg tX7_behind 11 rfl) (by decide) ?_
      refine WP.callSi (As := [.int x3, .int 0, .int 1]) (st := []) vX7_88 rfl ⟨Nat.le_of_ble_eq_true rfl, Nat.le_of_ble_eq_true rfl⟩ (Nat.le_of_ble_eq_true rfl) rfl (dg tX7_behind 12 rfl) h (fun v6 M5 h => ?_)
      refine WP.if_ne (tgt := 29) (dg tX7_behind 13 rfl) (by decide) (fun z => ?_) (fun z => ?_)
      · replace h := h.1 z
        refine WP.aload_n 0 (dg tX7_behind 16 rfl) rfl rfl ?_
        refine WP.callVv (As := []) (st := []) vX7_177 h0.1 rfl rfl ⟨Nat.le_of_ble_eq_true rfl, Nat.le_of_ble_eq_true rfl⟩ (Nat.le_of_ble_eq_true rfl) rfl (dg tX7_behind 17 rfl) h (fun M7 h => ?_)
        refine WP.aload_n 0 (dg tX7_behind 18 rfl) rfl rfl ?_
        refine WP.iload_n 1 (dg tX7_behind 19 rfl) rfl rfl ?_
        refine WP.callVv (As := [.int x1]) (st := []) vX7_204 h0.1 rfl rfl ⟨Nat.le_of_ble_eq_true rfl, Nat.le_of_ble_eq_true rfl⟩ (Nat.le_of_ble_eq_true rfl) rfl (dg tX7_behind 20 rfl) h (fun M8 h => ?_)
        refine WP.iload_n 3 (dg tX7_behind 21 rfl) rfl rfl ?_
        refine WP.if_ne (tgt := 53) (dg tX7_behind 22 rfl) (by decide) (fun z => ?_) (fun z => ?_)
        · replace h := h.1 z
          refine WP.aload_n 0 (dg tX7_behind 30 rfl) rfl rfl ?_
          refine WP.getF fX7_62 h0.1 (dg tX7_behind 31 rfl) ?_
          refine WP.bipush (v := 21) (dg tX7_behind 32 rfl) (by decide) ?_
          refine WP.iload_n 2 (dg tX7_behind 33 rfl) rfl rfl ?_
          refine WP.iadd (dg tX7_behind 34 rfl) ?_
          obtain ⟨hb61, h⟩ := h
          refine WP.iald h0.2.2.2.2.2.2.2.2.2.2.2.2.2.2.2.2.2.2.1 hb61 (dg tX7_behind 35 rfl) ?_
          exact WP.iret rfl (dg tX7_behind 36 rfl) ⟨_, rfl, h⟩
        · replace h := h.2 z
          refine WP.aload_n 0 (dg tX7_behind 23 rfl) rfl rfl ?_
          refine WP.getF fX7_62 h0.1 (dg tX7_behind 24 rfl) ?_
          refine WP.iconst (v := 1) (dg tX7_behind 25 rfl) (by decide) ?_
          refine WP.iload_n 2 (dg tX7_behind 26 rfl) rfl rfl ?_
          refine WP.iadd (dg tX7_behind 27 rfl) ?_
          obtain ⟨hb49, h⟩ := h
          refine WP.iald h0.2.2.2.2.2.2.2.2.2.2.2.2.2.2.2.2.2.2.1 hb49 (dg tX7_behind 28 rfl) ?_
          refine WP.goto (tgt := 62) (dg tX7_behind 29 rfl) (by decide) ?_
          exact WP.iret rfl (dg tX7_behind 36 rfl) ⟨_, rfl, h⟩
      · replace h := h.2 z
        refine WP.iconst (v := (-1)) (dg tX7_behind 14 rfl) (by decide) ?_
        exact WP.iret rfl (dg tX7_behind 15 rfl) ⟨_, rfl, h⟩
theorem sg_X7_caught_0 {T : Th} {M : Mm} {Q : Int32 → Mm → Prop} {x0 : Nat} {x1 : Int32} (h0 : isX7 T x0)
    (h : WPi T mX7_in [.int x1, .int 0, .int 1] M (fun v2 M1 => (¬ v2 = 0 → WPv T mX7_toThen [.ref x0] M1 (fun M3 => WPi T mX7_caughtThen [.ref x0] M3 (fun v5 M4 => WP T mX7_caught 22 [(0, .ref x0), (1, .int x1), (2, .int v5), (3, .int 1)] [] M4 (qi Q)))) ∧ (v2 = 0 → Q (-1) M1))) :
    WP T mX7_caught 0 [(0, .ref x0), (1, .int x1)] [] M (qi Q) := by
  refine WP.iload_n 1 (dg tX7_caught 0 rfl) rfl rfl ?_
  refine WP.iconst (v := 0) (dg tX7_caught 1 rfl) (by decide) ?_
  refine WP.iconst (v := 1) (dg tX7_caught 2 rfl) (by decide) ?_
  refine WP.callSi (As := [.int x1, .int 0, .int 1]) (st := []) vX7_88 rfl ⟨Nat.le_of_ble_eq_true rfl, Nat.le_of_ble_eq_true rfl⟩ (Nat.le_of_ble_eq_true rfl) rfl (dg tX7_caught 3 rfl) h (fun v2 M1 h => ?_)
  refine WP.if_ne (tgt := 11) (dg tX7_caught 4 rfl) (by decide) (fun z => ?_) (fun z => ?_)
  · replace h := h.1 z
    refine WP.aload_n 0 (dg tX7_caught 7 rfl) rfl rfl ?_
    refine WP.callVv (As := []) (st := []) vX7_177 h0.1 rfl rfl ⟨Nat.le_of_ble_eq_true rfl, Nat.le_of_ble_eq_true rfl⟩ (Nat.le_of_ble_eq_true rfl) rfl (dg tX7_caught 8 rfl) h (fun M3 h => ?_)
    refine WP.aload_n 0 (dg tX7_caught 9 rfl) rfl rfl ?_
    refine WP.callVi (As := []) (st := []) vX7_180 h0.1 rfl rfl ⟨Nat.le_of_ble_eq_true rfl, Nat.le_of_ble_eq_true rfl⟩ (Nat.le_of_ble_eq_true rfl) rfl (dg tX7_caught 10 rfl) h (fun v5 M4 h => ?_)
    refine WP.istore_n (L2 := [(2, .int v5), (0, .ref x0), (1, .int x1)]) (dg tX7_caught 11 rfl) rfl (by decide) rfl ?_
    refine WP.iconst (v := 1) (dg tX7_caught 12 rfl) (by decide) ?_
    refine WP.istore_n (L2 := [(3, .int 1), (2, .int v5), (0, .ref x0), (1, .int x1)]) (dg tX7_caught 13 rfl) rfl (by decide) rfl ?_
    refine WP.sub [2, 3, 1, 0] rfl ?_
    exact h
  · replace h := h.2 z
    refine WP.iconst (v := (-1)) (dg tX7_caught 5 rfl) (by decide) ?_
    exact WP.iret rfl (dg tX7_caught 6 rfl) ⟨_, rfl, h⟩
theorem sg_X7_caught_22 {T : Th} {M : Mm} {Q : Int32 → Mm → Prop} {x0 : Nat} {x1 : Int32} {x2 : Int32} {x3 : Int32} (h0 : isX7 T x0)
    (h : (60 < x3 → Q (-9) M) ∧ (¬ 60 < x3 → WPv T mX7_pass [.ref x0] M (fun M1 => WPi T mX7_caughtThen [.ref x0] M1 (fun v3 M2 => ∀ v4 : Int32, v4 = v3 &&& (x2 ^^^ (-1)) → (v4 = 0 → ∀ v5 : Int32, v5 = x3 + 1 → WP T mX7_caught 22 [(0, .ref x0), (1, .int x1), (2, .int x2), (3, .int v5)] [] M2 (qi Q)) ∧ (¬ v4 = 0 → WP T mX7_caught 50 [(1, .int x1), (3, .int x3), (4, .int v4), (5, .int 0)] [] M2 (qi Q)))))) :
    WP T mX7_caught 22 [(0, .ref x0), (1, .int x1), (2, .int x2), (3, .int x3)] [] M (qi Q) := by
  refine WP.iload_n 3 (dg tX7_caught 14 rfl) rfl rfl ?_
  refine WP.bipush (v := 60) (dg tX7_caught 15 rfl) (by decide) ?_
  refine WP.icmp_gt (tgt := 83) (dg tX7_caught 16 rfl) (by decide) (fun z => ?_) (fun z => ?_)
  · replace h := h.1 z
    refine WP.bipush (v := (-9)) (dg tX7_caught 46 rfl) (by decide) ?_
    exact WP.iret rfl (dg tX7_caught 47 rfl) ⟨_, rfl, h⟩
  · replace h := h.2 z
    refine WP.aload_n 0 (dg tX7_caught 17 rfl) rfl rfl ?_
    refine WP.callVv (As := []) (st := []) vX7_195 h0.1 rfl rfl ⟨Nat.le_of_ble_eq_true rfl, Nat.le_of_ble_eq_true rfl⟩ (Nat.le_of_ble_eq_true rfl) rfl (dg tX7_caught 18 rfl) h (fun M1 h => ?_)
    refine WP.aload_n 0 (dg tX7_caught 19 rfl) rfl rfl ?_
    refine WP.callVi (As := []) (st := []) vX7_180 h0.1 rfl rfl ⟨Nat.le_of_ble_eq_true rfl, Nat.le_of_ble_eq_true rfl⟩ (Nat.le_of_ble_eq_true rfl) rfl (dg tX7_caught 20 rfl) h (fun v3 M2 h => ?_)
    refine WP.iload_n 2 (dg tX7_caught 21 rfl) rfl rfl ?_
    refine WP.iconst (v := (-1)) (dg tX7_caught 22 rfl) (by decide) ?_
    refine WP.ixor (dg tX7_caught 23 rfl) ?_
    refine WP.iand (dg tX7_caught 24 rfl) ?_
    refine WP.topi (fun v4 e_v4 => ?_)
    have h := h v4 e_v4
    refine WP.istore (L2 := [(4, .int v4), (0, .ref x0), (1, .int x1), (2, .int x2), (3, .int x3)]) (dg tX7_caught 25 rfl) (by decide) rfl ?_
    refine WP.iload 0 (dg tX7_caught 26 rfl) rfl ?_
    refine WP.if_eq (tgt := 77) (dg tX7_caught 27 rfl) (by decide) (fun z => ?_) (fun z => ?_)
    · replace h := h.1 z
      obtain ⟨v5, e_v5⟩ : ∃ y : Int32, y = x3 + 1 := ⟨_, rfl⟩
      have h := h v5 e_v5
      refine WP.iinc (v := v5) (L2 := [(3, .int v5), (4, .int v4), (0, .ref x0), (1, .int x1), (2, .int x2)]) 4 (dg tX7_caught 44 rfl) rfl (by rw [e_v5]; rfl) (by decide) rfl ?_
      refine WP.goto (tgt := 22) (dg tX7_caught 45 rfl) (by decide) ?_
      refine WP.sub [2, 3, 4, 0] rfl ?_
      exact h
    · replace h := h.2 z
      refine WP.iconst (v := 0) (dg tX7_caught 28 rfl) (by decide) ?_
      refine WP.istore (L2 := [(5, .int 0), (4, .int v4), (0, .ref x0), (1, .int x1), (2, .int x2), (3, .int x3)]) (dg tX7_caught 29 rfl) (by decide) rfl ?_
      refine WP.sub [3, 5, 1, 0] rfl ?_
      exact h
theorem sg_X7_caught_50 {T : Th} {M : Mm} {Q : Int32 → Mm → Prop} {x1 : Int32} {x3 : Int32} {x4 : Int32} {x5 : Int32} 
    (h : (¬ ((x4 >>> (x5 &&& 31)) &&& 1) = 0 → (¬ x1 = 0 → Q x5 M) ∧ (x1 = 0 → Q x3 M)) ∧ (((x4 >>> (x5 &&& 31)) &&& 1) = 0 → ∀ v1 : Int32, v1 = x5 + 1 → WP T mX7_caught 50 [(1, .int x1), (3, .int x3), (4, .int x4), (5, .int v1)] [] M (qi Q))) :
    WP T mX7_caught 50 [(1, .int x1), (3, .int x3), (4, .int x4), (5, .int x5)] [] M (qi Q) := by
  refine WP.iload 2 (dg tX7_caught 30 rfl) rfl ?_
  refine WP.iload 3 (dg tX7_caught 31 rfl) rfl ?_
  refine WP.ishr (dg tX7_caught 32 rfl) ?_
  refine WP.iconst (v := 1) (dg tX7_caught 33 rfl) (by decide) ?_
  refine WP.iand (dg tX7_caught 34 rfl) ?_
  refine WP.if_ne (tgt := 66) (dg tX7_caught 35 rfl) (by decide) (fun z => ?_) (fun z => ?_)
  · replace h := h.1 z
    refine WP.iload_n 0 (dg tX7_caught 38 rfl) rfl rfl ?_
    refine WP.if_ne (tgt := 74) (dg tX7_caught 39 rfl) (by decide) (fun z => ?_) (fun z => ?_)
    · replace h := h.1 z
      refine WP.iload 3 (dg tX7_caught 42 rfl) rfl ?_
      exact WP.iret rfl (dg tX7_caught 43 rfl) ⟨_, rfl, h⟩
    · replace h := h.2 z
      refine WP.iload_n 1 (dg tX7_caught 40 rfl) rfl rfl ?_
      refine WP.goto (tgt := 76) (dg tX7_caught 41 rfl) (by decide) ?_
      exact WP.iret rfl (dg tX7_caught 43 rfl) ⟨_, rfl, h⟩
  · replace h := h.2 z
    obtain ⟨v1, e_v1⟩ : ∃ y : Int32, y = x5 + 1 := ⟨_, rfl⟩
    have h := h v1 e_v1
    refine WP.iinc (v := v1) (L2 := [(5, .int v1), (1, .int x1), (3, .int x3), (4, .int x4)]) 3 (dg tX7_caught 36 rfl) rfl (by rw [e_v1]; rfl) (by decide) rfl ?_
    refine WP.goto (tgt := 50) (dg tX7_caught 37 rfl) (by decide) ?_
    refine WP.sub [1, 2, 3, 0] rfl ?_
    exact h
theorem sg_X7_waits_0 {T : Th} {M : Mm} {Q : Int32 → Mm → Prop} {x0 : Nat} {x1 : Int32} (h0 : isX7 T x0)
    (h : WPi T mX7_in [.int x1, .int 0, .int 1] M (fun v2 M1 => (¬ v2 = 0 → WPv T mX7_toThen [.ref x0] M1 (fun M3 => WP T mX7_waits 17 [(0, .ref x0), (1, .int x1), (2, .int 1)] [] M3 (qi Q))) ∧ (v2 = 0 → Q (-1) M1))) :
    WP T mX7_waits 0 [(0, .ref x0), (1, .int x1)] [] M (qi Q) := by
  refine WP.iload_n 1 (dg tX7_waits 0 rfl) rfl rfl ?_
  refine WP.iconst (v := 0) (dg tX7_waits 1 rfl) (by decide) ?_
  refine WP.iconst (v := 1) (dg tX7_waits 2 rfl) (by decide) ?_
  refine WP.callSi (As := [.int x1, .int 0, .int 1]) (st := []) vX7_88 rfl ⟨Nat.le_of_ble_eq_true rfl, Nat.le_of_ble_eq_true rfl⟩ (Nat.le_of_ble_eq_true rfl) rfl (dg tX7_waits 3 rfl) h (fun v2 M1 h => ?_)
  refine WP.if_ne (tgt := 11) (dg tX7_waits 4 rfl) (by decide) (fun z => ?_) (fun z => ?_)
  · replace h := h.1 z
    refine WP.aload_n 0 (dg tX7_waits 7 rfl) rfl rfl ?_
    refine WP.callVv (As := []) (st := []) vX7_177 h0.1 rfl rfl ⟨Nat.le_of_ble_eq_true rfl, Nat.le_of_ble_eq_true rfl⟩ (Nat.le_of_ble_eq_true rfl) rfl (dg tX7_waits 8 rfl) h (fun M3 h => ?_)
    refine WP.iconst (v := 1) (dg tX7_waits 9 rfl) (by decide) ?_
    refine WP.istore_n (L2 := [(2, .int 1), (0, .ref x0), (1, .int x1)]) (dg tX7_waits 10 rfl) rfl (by decide) rfl ?_
    refine WP.sub [1, 2, 0] rfl ?_
    exact h
  · replace h := h.2 z
    refine WP.iconst (v := (-1)) (dg tX7_waits 5 rfl) (by decide) ?_
    exact WP.iret rfl (dg tX7_waits 6 rfl) ⟨_, rfl, h⟩
theorem sg_X7_waits_17 {T : Th} {M : Mm} {Q : Int32 → Mm → Prop} {x0 : Nat} {x1 : Int32} {x2 : Int32} (h0 : isX7 T x0)
    (h : (60 < x2 → Q (-9) M) ∧ (¬ 60 < x2 → WPv T mX7_pass [.ref x0] M (fun M1 => ((M1.1 x0 29) = (-9) → ∀ v2 : Int32, v2 = x2 + 1 → WP T mX7_waits 17 [(0, .ref x0), (1, .int x1), (2, .int v2)] [] M1 (qi Q)) ∧ (¬ (M1.1 x0 29) = (-9) → (¬ x1 = 0 → Q (M1.1 x0 29) M1) ∧ (x1 = 0 → Q x2 M1))))) :
    WP T mX7_waits 17 [(0, .ref x0), (1, .int x1), (2, .int x2)] [] M (qi Q) := by
  refine WP.iload_n 2 (dg tX7_waits 11 rfl) rfl rfl ?_
  refine WP.bipush (v := 60) (dg tX7_waits 12 rfl) (by decide) ?_
  refine WP.icmp_gt (tgt := 55) (dg tX7_waits 13 rfl) (by decide) (fun z => ?_) (fun z => ?_)
  · replace h := h.1 z
    refine WP.bipush (v := (-9)) (dg tX7_waits 29 rfl) (by decide) ?_
    exact WP.iret rfl (dg tX7_waits 30 rfl) ⟨_, rfl, h⟩
  · replace h := h.2 z
    refine WP.aload_n 0 (dg tX7_waits 14 rfl) rfl rfl ?_
    refine WP.callVv (As := []) (st := []) vX7_195 h0.1 rfl rfl ⟨Nat.le_of_ble_eq_true rfl, Nat.le_of_ble_eq_true rfl⟩ (Nat.le_of_ble_eq_true rfl) rfl (dg tX7_waits 15 rfl) h (fun M1 h => ?_)
    refine WP.aload_n 0 (dg tX7_waits 16 rfl) rfl rfl ?_
    refine WP.getI fX7_186 h0.1 (dg tX7_waits 17 rfl) ?_
    refine WP.bipush (v := (-9)) (dg tX7_waits 18 rfl) (by decide) ?_
    refine WP.icmp_eq (tgt := 49) (dg tX7_waits 19 rfl) (by decide) (fun z => ?_) (fun z => ?_)
    · replace h := h.1 z
      obtain ⟨v2, e_v2⟩ : ∃ y : Int32, y = x2 + 1 := ⟨_, rfl⟩
      have h := h v2 e_v2
      refine WP.iinc (v := v2) (L2 := [(2, .int v2), (0, .ref x0), (1, .int x1)]) 2 (dg tX7_waits 27 rfl) rfl (by rw [e_v2]; rfl) (by decide) rfl ?_
      refine WP.goto (tgt := 17) (dg tX7_waits 28 rfl) (by decide) ?_
      refine WP.sub [1, 2, 0] rfl ?_
      exact h
    · replace h := h.2 z
      refine WP.iload_n 1 (dg tX7_waits 20 rfl) rfl rfl ?_
      refine WP.if_ne (tgt := 44) (dg tX7_waits 21 rfl) (by decide) (fun z => ?_) (fun z => ?_)
      · replace h := h.1 z
        refine WP.aload_n 0 (dg tX7_waits 24 rfl) rfl rfl ?_
        refine WP.getI fX7_186 h0.1 (dg tX7_waits 25 rfl) ?_
        exact WP.iret rfl (dg tX7_waits 26 rfl) ⟨_, rfl, h⟩
      · replace h := h.2 z
        refine WP.iload_n 2 (dg tX7_waits 22 rfl) rfl rfl ?_
        refine WP.goto (tgt := 48) (dg tX7_waits 23 rfl) (by decide) ?_
        exact WP.iret rfl (dg tX7_waits 26 rfl) ⟨_, rfl, h⟩
theorem sg_X7_stands_0 {T : Th} {M : Mm} {Q : Int32 → Mm → Prop} {x0 : Nat} {x1 : Int32} (h0 : isX7 T x0)
    (h : WPi T mX7_isWagon [.ref x0, .int x1] M (fun v2 M1 => (¬ v2 = 0 → vp_in (21 + x1) 1026 ∧ ((¬ (M1.1 (x0 + 17) (21 + x1).toNatClampNeg) = 1 → WP T mX7_stands 29 [(0, .ref x0), (1, .int x1), (2, .int 30)] [] M1 (qi Q)) ∧ ((M1.1 (x0 + 17) (21 + x1).toNatClampNeg) = 1 → Q (-2) M1))) ∧ (v2 = 0 → Q (-1) M1))) :
    WP T mX7_stands 0 [(0, .ref x0), (1, .int x1)] [] M (qi Q) := by
  refine WP.aload_n 0 (dg tX7_stands 0 rfl) rfl rfl ?_
  refine WP.iload_n 1 (dg tX7_stands 1 rfl) rfl rfl ?_
  refine WP.callVi (As := [.int x1]) (st := []) vX7_170 h0.1 rfl rfl ⟨Nat.le_of_ble_eq_true rfl, Nat.le_of_ble_eq_true rfl⟩ (Nat.le_of_ble_eq_true rfl) rfl (dg tX7_stands 2 rfl) h (fun v2 M1 h => ?_)
  refine WP.if_ne (tgt := 10) (dg tX7_stands 3 rfl) (by decide) (fun z => ?_) (fun z => ?_)
  · replace h := h.1 z
    refine WP.aload_n 0 (dg tX7_stands 6 rfl) rfl rfl ?_
    refine WP.getF fX7_59 h0.1 (dg tX7_stands 7 rfl) ?_
    refine WP.bipush (v := 21) (dg tX7_stands 8 rfl) (by decide) ?_
    refine WP.iload_n 1 (dg tX7_stands 9 rfl) rfl rfl ?_
    refine WP.iadd (dg tX7_stands 10 rfl) ?_
    obtain ⟨hb18, h⟩ := h
    refine WP.iald h0.2.2.2.2.2.2.2.2.2.2.2.2.2.2.2.2.2.1 hb18 (dg tX7_stands 11 rfl) ?_
    refine WP.iconst (v := 1) (dg tX7_stands 12 rfl) (by decide) ?_
    refine WP.icmp_ne (tgt := 26) (dg tX7_stands 13 rfl) (by decide) (fun z => ?_) (fun z => ?_)
    · replace h := h.1 z
      refine WP.bipush (v := 30) (dg tX7_stands 16 rfl) (by decide) ?_
      refine WP.istore_n (L2 := [(2, .int 30), (0, .ref x0), (1, .int x1)]) (dg tX7_stands 17 rfl) rfl (by decide) rfl ?_
      refine WP.sub [1, 2, 0] rfl ?_
      exact h
    · replace h := h.2 z
      refine WP.bipush (v := (-2)) (dg tX7_stands 14 rfl) (by decide) ?_
      exact WP.iret rfl (dg tX7_stands 15 rfl) ⟨_, rfl, h⟩
  · replace h := h.2 z
    refine WP.iconst (v := (-1)) (dg tX7_stands 4 rfl) (by decide) ?_
    exact WP.iret rfl (dg tX7_stands 5 rfl) ⟨_, rfl, h⟩
theorem sg_X7_stands_29 {T : Th} {M : Mm} {Q : Int32 → Mm → Prop} {x0 : Nat} {x1 : Int32} {x2 : Int32} (h0 : isX7 T x0)
    (h : (x2 < 0 → Q (-9) M) ∧ (¬ x2 < 0 → vp_in (11 + x1) 1026 ∧ ((99 < ((M.1 (x0 + 17) (11 + x1).toNatClampNeg) + x2) → ∀ v1 : Int32, v1 = x2 + (-1) → WP T mX7_stands 29 [(0, .ref x0), (1, .int x1), (2, .int v1)] [] M (qi Q)) ∧ (¬ 99 < ((M.1 (x0 + 17) (11 + x1).toNatClampNeg) + x2) → WPv T mX7_toThen [.ref x0] M (fun M1 => WPi T mX7_caughtThen [.ref x0] M1 (fun v3 M2 => vp_in (11 + x1) 31 ∧ (vp_in (11 + x1) 31 ∧ (∀ M4 : Mm, M4 = sI M2 (x0 + 18) (11 + x1).toNatClampNeg ((M2.1 (x0 + 18) (11 + x1).toNatClampNeg) + x2) → WPv T mX7_passMany [.ref x0, .int 40] M4 (fun M5 => WPi T mX7_caughtThen [.ref x0] M5 (fun v7 M6 => (¬ v7 = v3 → ∀ v8 : Int32, v8 = x2 + (-1) → WP T mX7_stands 29 [(0, .ref x0), (1, .int x1), (2, .int v8)] [] M6 (qi Q)) ∧ (v7 = v3 → Q x2 M6))))))))))) :
    WP T mX7_stands 29 [(0, .ref x0), (1, .int x1), (2, .int x2)] [] M (qi Q) := by
  refine WP.iload_n 2 (dg tX7_stands 18 rfl) rfl rfl ?_
  refine WP.if_lt (tgt := 93) (dg tX7_stands 19 rfl) (by decide) (fun z => ?_) (fun z => ?_)
  · replace h := h.1 z
    refine WP.bipush (v := (-9)) (dg tX7_stands 56 rfl) (by decide) ?_
    exact WP.iret rfl (dg tX7_stands 57 rfl) ⟨_, rfl, h⟩
  · replace h := h.2 z
    refine WP.aload_n 0 (dg tX7_stands 20 rfl) rfl rfl ?_
    refine WP.getF fX7_59 h0.1 (dg tX7_stands 21 rfl) ?_
    refine WP.bipush (v := 11) (dg tX7_stands 22 rfl) (by decide) ?_
    refine WP.iload_n 1 (dg tX7_stands 23 rfl) rfl rfl ?_
    refine WP.iadd (dg tX7_stands 24 rfl) ?_
    obtain ⟨hb41, h⟩ := h
    refine WP.iald h0.2.2.2.2.2.2.2.2.2.2.2.2.2.2.2.2.2.1 hb41 (dg tX7_stands 25 rfl) ?_
    refine WP.iload_n 2 (dg tX7_stands 26 rfl) rfl rfl ?_
    refine WP.iadd (dg tX7_stands 27 rfl) ?_
    refine WP.bipush (v := 99) (dg tX7_stands 28 rfl) (by decide) ?_
    refine WP.icmp_gt (tgt := 87) (dg tX7_stands 29 rfl) (by decide) (fun z => ?_) (fun z => ?_)
    · replace h := h.1 z
      obtain ⟨v1, e_v1⟩ : ∃ y : Int32, y = x2 + (-1) := ⟨_, rfl⟩
      have h := h v1 e_v1
      refine WP.iinc (v := v1) (L2 := [(2, .int v1), (0, .ref x0), (1, .int x1)]) 2 (dg tX7_stands 54 rfl) rfl (by rw [e_v1]; rfl) (by decide) rfl ?_
      refine WP.goto (tgt := 29) (dg tX7_stands 55 rfl) (by decide) ?_
      refine WP.sub [1, 2, 0] rfl ?_
      exact h
    · replace h := h.2 z
      refine WP.aload_n 0 (dg tX7_stands 30 rfl) rfl rfl ?_
      refine WP.callVv (As := []) (st := []) vX7_177 h0.1 rfl rfl ⟨Nat.le_of_ble_eq_true rfl, Nat.le_of_ble_eq_true rfl⟩ (Nat.le_of_ble_eq_true rfl) rfl (dg tX7_stands 31 rfl) h (fun M1 h => ?_)
      refine WP.aload_n 0 (dg tX7_stands 32 rfl) rfl rfl ?_
      refine WP.callVi (As := []) (st := []) vX7_180 h0.1 rfl rfl ⟨Nat.le_of_ble_eq_true rfl, Nat.le_of_ble_eq_true rfl⟩ (Nat.le_of_ble_eq_true rfl) rfl (dg tX7_stands 33 rfl) h (fun v3 M2 h => ?_)
      refine WP.istore_n (L2 := [(3, .int v3), (0, .ref x0), (1, .int x1), (2, .int x2)]) (dg tX7_stands 34 rfl) rfl (by decide) rfl ?_
      refine WP.aload_n 1 (dg tX7_stands 35 rfl) rfl rfl ?_
      refine WP.getF fX7_62 h0.1 (dg tX7_stands 36 rfl) ?_
      refine WP.bipush (v := 11) (dg tX7_stands 37 rfl) (by decide) ?_
      refine WP.iload_n 2 (dg tX7_stands 38 rfl) rfl rfl ?_
      refine WP.iadd (dg tX7_stands 39 rfl) ?_
      refine WP.dup2 (dg tX7_stands 40 rfl) rfl rfl ?_
      obtain ⟨hb67, h⟩ := h
      refine WP.iald h0.2.2.2.2.2.2.2.2.2.2.2.2.2.2.2.2.2.2.1 hb67 (dg tX7_stands 41 rfl) ?_
      refine WP.iload_n 3 (dg tX7_stands 42 rfl) rfl rfl ?_
      refine WP.iadd (dg tX7_stands 43 rfl) ?_
      obtain ⟨hb70, h⟩ := h
      refine WP.iast h0.2.2.2.2.2.2.2.2.2.2.2.2.2.2.2.2.2.2.1 hb70 (dg tX7_stands 44 rfl) (fun M4 e_M4 => ?_)
      have h := h M4 e_M4
      refine WP.aload_n 1 (dg tX7_stands 45 rfl) rfl rfl ?_
      refine WP.bipush (v := 40) (dg tX7_stands 46 rfl) (by decide) ?_
      refine WP.callVv (As := [.int 40]) (st := []) vX7_204 h0.1 rfl rfl ⟨Nat.le_of_ble_eq_true rfl, Nat.le_of_ble_eq_true rfl⟩ (Nat.le_of_ble_eq_true rfl) rfl (dg tX7_stands 47 rfl) h (fun M5 h => ?_)
      refine WP.aload_n 1 (dg tX7_stands 48 rfl) rfl rfl ?_
      refine WP.callVi (As := []) (st := []) vX7_180 h0.1 rfl rfl ⟨Nat.le_of_ble_eq_true rfl, Nat.le_of_ble_eq_true rfl⟩ (Nat.le_of_ble_eq_true rfl) rfl (dg tX7_stands 49 rfl) h (fun v7 M6 h => ?_)
      refine WP.iload_n 0 (dg tX7_stands 50 rfl) rfl rfl ?_
      refine WP.icmp_ne (tgt := 87) (dg tX7_stands 51 rfl) (by decide) (fun z => ?_) (fun z => ?_)
      · replace h := h.1 z
        obtain ⟨v8, e_v8⟩ : ∃ y : Int32, y = x2 + (-1) := ⟨_, rfl⟩
        have h := h v8 e_v8
        refine WP.iinc (v := v8) (L2 := [(2, .int v8), (3, .int v3), (0, .ref x0), (1, .int x1)]) 3 (dg tX7_stands 54 rfl) rfl (by rw [e_v8]; rfl) (by decide) rfl ?_
        refine WP.goto (tgt := 29) (dg tX7_stands 55 rfl) (by decide) ?_
        refine WP.sub [2, 3, 0] rfl ?_
        exact h
      · replace h := h.2 z
        refine WP.iload_n 3 (dg tX7_stands 52 rfl) rfl rfl ?_
        exact WP.iret rfl (dg tX7_stands 53 rfl) ⟨_, rfl, h⟩
theorem sg_X7_findLacking_0 {T : Th} {M : Mm} {Q : Mm → Prop} {x0 : Nat} (h0 : isX7 T x0)
    (h : ∀ M1 : Mm, M1 = sI M x0 31 0 → WP T mX7_findLacking 7 [(0, .ref x0), (1, .int 0)] [] M1 (qv Q)) :
    WP T mX7_findLacking 0 [(0, .ref x0)] [] M (qv Q) := by
  refine WP.aload_n 0 (dg tX7_findLacking 0 rfl) rfl rfl ?_
  refine WP.iconst (v := 0) (dg tX7_findLacking 1 rfl) (by decide) ?_
  refine WP.putI fX7_207 h0.1 (dg tX7_findLacking 2 rfl) (fun M1 e_M1 => ?_)
  have h := h M1 e_M1
  refine WP.iconst (v := 0) (dg tX7_findLacking 3 rfl) (by decide) ?_
  refine WP.istore_n (L2 := [(1, .int 0), (0, .ref x0)]) (dg tX7_findLacking 4 rfl) rfl (by decide) rfl ?_
  refine WP.sub [1, 0] rfl ?_
  exact h
theorem sg_X7_findLacking_7 {T : Th} {M : Mm} {Q : Mm → Prop} {x0 : Nat} {x1 : Int32} (h0 : isX7 T x0)
    (h : ((M.1 (x0 + 7) 0) ≤ x1 → Q M) ∧ (¬ (M.1 (x0 + 7) 0) ≤ x1 → (3 ≤ (M.1 x0 31) → Q M) ∧ (¬ 3 ≤ (M.1 x0 31) → vp_in x1 10 ∧ (vp_in (16 + x1) 1026 ∧ (vp_in (11 + x1) 1026 ∧ (∀ v1 : Int32, v1 = ((M.1 (x0 + 12) x1.toNatClampNeg) - (M.1 (x0 + 17) (16 + x1).toNatClampNeg)) - (M.1 (x0 + 17) (11 + x1).toNatClampNeg) → vp_in (21 + x1) 1026 ∧ ((¬ (M.1 (x0 + 17) (21 + x1).toNatClampNeg) = 0 → ∀ v2 : Int32, v2 = x1 + 1 → WP T mX7_findLacking 7 [(0, .ref x0), (1, .int v2)] [] M (qv Q)) ∧ ((M.1 (x0 + 17) (21 + x1).toNatClampNeg) = 0 → (v1 ≤ 0 → ∀ v2 : Int32, v2 = x1 + 1 → WP T mX7_findLacking 7 [(0, .ref x0), (1, .int v2)] [] M (qv Q)) ∧ (¬ v1 ≤ 0 → vp_in (M.1 x0 31) 3 ∧ (∀ M2 : Mm, M2 = sI M (x0 + 20) (M.1 x0 31).toNatClampNeg x1 → vp_in (M2.1 x0 31) 3 ∧ (∀ M3 : Mm, M3 = sI M2 (x0 + 21) (M2.1 x0 31).toNatClampNeg v1 → ∀ M4 : Mm, M4 = sI M3 x0 31 ((M3.1 x0 31) + 1) → ∀ v5 : Int32, v5 = x1 + 1 → WP T mX7_findLacking 7 [(0, .ref x0), (1, .int v5)] [] M4 (qv Q)))))))))))) :
    WP T mX7_findLacking 7 [(0, .ref x0), (1, .int x1)] [] M (qv Q) := by
  refine WP.iload_n 1 (dg tX7_findLacking 5 rfl) rfl rfl ?_
  refine WP.aload_n 0 (dg tX7_findLacking 6 rfl) rfl rfl ?_
  refine WP.getF fX7_29 h0.1 (dg tX7_findLacking 7 rfl) ?_
  refine WP.iconst (v := 0) (dg tX7_findLacking 8 rfl) (by decide) ?_
  refine WP.ialdc (k := 0) h0.2.2.2.2.2.2.2.1 (by decide) (by decide) (dg tX7_findLacking 9 rfl) ?_
  refine WP.icmp_ge (tgt := 104) (dg tX7_findLacking 10 rfl) (by decide) (fun z => ?_) (fun z => ?_)
  · replace h := h.1 z
    exact WP.vret rfl (dg tX7_findLacking 63 rfl) ⟨rfl, h⟩
  · replace h := h.2 z
    refine WP.aload_n 0 (dg tX7_findLacking 11 rfl) rfl rfl ?_
    refine WP.getI fX7_207 h0.1 (dg tX7_findLacking 12 rfl) ?_
    refine WP.iconst (v := 3) (dg tX7_findLacking 13 rfl) (by decide) ?_
    refine WP.icmp_ge (tgt := 104) (dg tX7_findLacking 14 rfl) (by decide) (fun z => ?_) (fun z => ?_)
    · replace h := h.1 z
      exact WP.vret rfl (dg tX7_findLacking 63 rfl) ⟨rfl, h⟩
    · replace h := h.2 z
      refine WP.aload_n 0 (dg tX7_findLacking 15 rfl) rfl rfl ?_
      refine WP.getF fX7_44 h0.1 (dg tX7_findLacking 16 rfl) ?_
      refine WP.iload_n 1 (dg tX7_findLacking 17 rfl) rfl rfl ?_
      obtain ⟨hb30, h⟩ := h
      refine WP.iald h0.2.2.2.2.2.2.2.2.2.2.2.2.1 hb30 (dg tX7_findLacking 18 rfl) ?_
      refine WP.aload_n 0 (dg tX7_findLacking 19 rfl) rfl rfl ?_
      refine WP.getF fX7_59 h0.1 (dg tX7_findLacking 20 rfl) ?_
      refine WP.bipush (v := 16) (dg tX7_findLacking 21 rfl) (by decide) ?_
      refine WP.iload_n 1 (dg tX7_findLacking 22 rfl) rfl rfl ?_
      refine WP.iadd (dg tX7_findLacking 23 rfl) ?_
      obtain ⟨hb39, h⟩ := h
      refine WP.iald h0.2.2.2.2.2.2.2.2.2.2.2.2.2.2.2.2.2.1 hb39 (dg tX7_findLacking 24 rfl) ?_
      refine WP.isub (dg tX7_findLacking 25 rfl) ?_
      refine WP.aload_n 0 (dg tX7_findLacking 26 rfl) rfl rfl ?_
      refine WP.getF fX7_59 h0.1 (dg tX7_findLacking 27 rfl) ?_
      refine WP.bipush (v := 11) (dg tX7_findLacking 28 rfl) (by decide) ?_
      refine WP.iload_n 1 (dg tX7_findLacking 29 rfl) rfl rfl ?_
      refine WP.iadd (dg tX7_findLacking 30 rfl) ?_
      obtain ⟨hb49, h⟩ := h
      refine WP.iald h0.2.2.2.2.2.2.2.2.2.2.2.2.2.2.2.2.2.1 hb49 (dg tX7_findLacking 31 rfl) ?_
      refine WP.isub (dg tX7_findLacking 32 rfl) ?_
      refine WP.topi (fun v1 e_v1 => ?_)
      have h := h v1 e_v1
      refine WP.istore_n (L2 := [(2, .int v1), (0, .ref x0), (1, .int x1)]) (dg tX7_findLacking 33 rfl) rfl (by decide) rfl ?_
      refine WP.aload_n 1 (dg tX7_findLacking 34 rfl) rfl rfl ?_
      refine WP.getF fX7_59 h0.1 (dg tX7_findLacking 35 rfl) ?_
      refine WP.bipush (v := 21) (dg tX7_findLacking 36 rfl) (by decide) ?_
      refine WP.iload_n 2 (dg tX7_findLacking 37 rfl) rfl rfl ?_
      refine WP.iadd (dg tX7_findLacking 38 rfl) ?_
      obtain ⟨hb60, h⟩ := h
      refine WP.iald h0.2.2.2.2.2.2.2.2.2.2.2.2.2.2.2.2.2.1 hb60 (dg tX7_findLacking 39 rfl) ?_
      refine WP.if_ne (tgt := 98) (dg tX7_findLacking 40 rfl) (by decide) (fun z => ?_) (fun z => ?_)
      · replace h := h.1 z
        obtain ⟨v2, e_v2⟩ : ∃ y : Int32, y = x1 + 1 := ⟨_, rfl⟩
        have h := h v2 e_v2
        refine WP.iinc (v := v2) (L2 := [(1, .int v2), (2, .int v1), (0, .ref x0)]) 2 (dg tX7_findLacking 61 rfl) rfl (by rw [e_v2]; rfl) (by decide) rfl ?_
        refine WP.goto (tgt := 7) (dg tX7_findLacking 62 rfl) (by decide) ?_
        refine WP.sub [2, 0] rfl ?_
        exact h
      · replace h := h.2 z
        refine WP.iload_n 0 (dg tX7_findLacking 41 rfl) rfl rfl ?_
        refine WP.if_le (tgt := 98) (dg tX7_findLacking 42 rfl) (by decide) (fun z => ?_) (fun z => ?_)
        · replace h := h.1 z
          obtain ⟨v2, e_v2⟩ : ∃ y : Int32, y = x1 + 1 := ⟨_, rfl⟩
          have h := h v2 e_v2
          refine WP.iinc (v := v2) (L2 := [(1, .int v2), (2, .int v1), (0, .ref x0)]) 2 (dg tX7_findLacking 61 rfl) rfl (by rw [e_v2]; rfl) (by decide) rfl ?_
          refine WP.goto (tgt := 7) (dg tX7_findLacking 62 rfl) (by decide) ?_
          refine WP.sub [2, 0] rfl ?_
          exact h
        · replace h := h.2 z
          refine WP.aload_n 1 (dg tX7_findLacking 43 rfl) rfl rfl ?_
          refine WP.getF fX7_69 h0.1 (dg tX7_findLacking 44 rfl) ?_
          refine WP.aload_n 1 (dg tX7_findLacking 45 rfl) rfl rfl ?_
          refine WP.getI fX7_207 h0.1 (dg tX7_findLacking 46 rfl) ?_
          refine WP.iload_n 2 (dg tX7_findLacking 47 rfl) rfl rfl ?_
          obtain ⟨hb77, h⟩ := h
          refine WP.iast h0.2.2.2.2.2.2.2.2.2.2.2.2.2.2.2.2.2.2.2.2.1 hb77 (dg tX7_findLacking 48 rfl) (fun M2 e_M2 => ?_)
          have h := h M2 e_M2
          refine WP.aload_n 1 (dg tX7_findLacking 49 rfl) rfl rfl ?_
          refine WP.getF fX7_72 h0.1 (dg tX7_findLacking 50 rfl) ?_
          refine WP.aload_n 1 (dg tX7_findLacking 51 rfl) rfl rfl ?_
          refine WP.getI fX7_207 h0.1 (dg tX7_findLacking 52 rfl) ?_
          refine WP.iload_n 0 (dg tX7_findLacking 53 rfl) rfl rfl ?_
          obtain ⟨hb87, h⟩ := h
          refine WP.iast h0.2.2.2.2.2.2.2.2.2.2.2.2.2.2.2.2.2.2.2.2.2.1 hb87 (dg tX7_findLacking 54 rfl) (fun M3 e_M3 => ?_)
          have h := h M3 e_M3
          refine WP.aload_n 1 (dg tX7_findLacking 55 rfl) rfl rfl ?_
          refine WP.dup (dg tX7_findLacking 56 rfl) rfl ?_
          refine WP.getI fX7_207 h0.1 (dg tX7_findLacking 57 rfl) ?_
          refine WP.iconst (v := 1) (dg tX7_findLacking 58 rfl) (by decide) ?_
          refine WP.iadd (dg tX7_findLacking 59 rfl) ?_
          refine WP.putI fX7_207 h0.1 (dg tX7_findLacking 60 rfl) (fun M4 e_M4 => ?_)
          have h := h M4 e_M4
          obtain ⟨v5, e_v5⟩ : ∃ y : Int32, y = x1 + 1 := ⟨_, rfl⟩
          have h := h v5 e_v5
          refine WP.iinc (v := v5) (L2 := [(1, .int v5), (2, .int v1), (0, .ref x0)]) 2 (dg tX7_findLacking 61 rfl) rfl (by rw [e_v5]; rfl) (by decide) rfl ?_
          refine WP.goto (tgt := 7) (dg tX7_findLacking 62 rfl) (by decide) ?_
          refine WP.sub [2, 0] rfl ?_
          exact h
theorem sg_X7_isWell_0 {T : Th} {M : Mm} {Q : Int32 → Mm → Prop} {x0 : Nat} {x1 : Int32} (h0 : isX7 T x0)
    (h : WPv T mX7_toThen [.ref x0] M (fun M1 => WPi T mX7_caughtThen [.ref x0] M1 (fun v3 M2 => WP T mX7_isWell 11 [(0, .ref x0), (1, .int x1), (2, .int v3), (3, .int 0)] [] M2 (qi Q)))) :
    WP T mX7_isWell 0 [(0, .ref x0), (1, .int x1)] [] M (qi Q) := by
  refine WP.aload_n 0 (dg tX7_isWell 0 rfl) rfl rfl ?_
  refine WP.callVv (As := []) (st := []) vX7_177 h0.1 rfl rfl ⟨Nat.le_of_ble_eq_true rfl, Nat.le_of_ble_eq_true rfl⟩ (Nat.le_of_ble_eq_true rfl) rfl (dg tX7_isWell 1 rfl) h (fun M1 h => ?_)
  refine WP.aload_n 0 (dg tX7_isWell 2 rfl) rfl rfl ?_
  refine WP.callVi (As := []) (st := []) vX7_180 h0.1 rfl rfl ⟨Nat.le_of_ble_eq_true rfl, Nat.le_of_ble_eq_true rfl⟩ (Nat.le_of_ble_eq_true rfl) rfl (dg tX7_isWell 3 rfl) h (fun v3 M2 h => ?_)
  refine WP.istore_n (L2 := [(2, .int v3), (0, .ref x0), (1, .int x1)]) (dg tX7_isWell 4 rfl) rfl (by decide) rfl ?_
  refine WP.iconst (v := 0) (dg tX7_isWell 5 rfl) (by decide) ?_
  refine WP.istore_n (L2 := [(3, .int 0), (2, .int v3), (0, .ref x0), (1, .int x1)]) (dg tX7_isWell 6 rfl) rfl (by decide) rfl ?_
  refine WP.sub [2, 3, 1, 0] rfl ?_
  exact h
theorem sg_X7_isWell_11 {T : Th} {M : Mm} {Q : Int32 → Mm → Prop} {x0 : Nat} {x1 : Int32} {x2 : Int32} {x3 : Int32} (h0 : isX7 T x0)
    (h : (40 ≤ x3 → WPi T mX7_caughtThen [.ref x0] M (fun v2 M1 => (¬ v2 = x2 → Q 0 M1) ∧ (v2 = x2 → Q 1 M1))) ∧ (¬ 40 ≤ x3 → WP T mX7_isWell 20 [(0, .ref x0), (1, .int x1), (2, .int x2), (3, .int x3), (4, .int 0)] [] M (qi Q))) :
    WP T mX7_isWell 11 [(0, .ref x0), (1, .int x1), (2, .int x2), (3, .int x3)] [] M (qi Q) := by
  refine WP.iload_n 3 (dg tX7_isWell 7 rfl) rfl rfl ?_
  refine WP.bipush (v := 40) (dg tX7_isWell 8 rfl) (by decide) ?_
  refine WP.icmp_ge (tgt := 108) (dg tX7_isWell 9 rfl) (by decide) (fun z => ?_) (fun z => ?_)
  · replace h := h.1 z
    refine WP.aload_n 0 (dg tX7_isWell 58 rfl) rfl rfl ?_
    refine WP.callVi (As := []) (st := []) vX7_180 h0.1 rfl rfl ⟨Nat.le_of_ble_eq_true rfl, Nat.le_of_ble_eq_true rfl⟩ (Nat.le_of_ble_eq_true rfl) rfl (dg tX7_isWell 59 rfl) h (fun v2 M1 h => ?_)
    refine WP.iload_n 2 (dg tX7_isWell 60 rfl) rfl rfl ?_
    refine WP.icmp_ne (tgt := 120) (dg tX7_isWell 61 rfl) (by decide) (fun z => ?_) (fun z => ?_)
    · replace h := h.1 z
      refine WP.iconst (v := 0) (dg tX7_isWell 64 rfl) (by decide) ?_
      exact WP.zret rfl (by decide) (dg tX7_isWell 65 rfl) ⟨_, rfl, h⟩
    · replace h := h.2 z
      refine WP.iconst (v := 1) (dg tX7_isWell 62 rfl) (by decide) ?_
      refine WP.goto (tgt := 121) (dg tX7_isWell 63 rfl) (by decide) ?_
      exact WP.zret rfl (by decide) (dg tX7_isWell 65 rfl) ⟨_, rfl, h⟩
  · replace h := h.2 z
    refine WP.iconst (v := 0) (dg tX7_isWell 10 rfl) (by decide) ?_
    refine WP.istore (L2 := [(4, .int 0), (0, .ref x0), (1, .int x1), (2, .int x2), (3, .int x3)]) (dg tX7_isWell 11 rfl) (by decide) rfl ?_
    refine WP.sub [1, 2, 3, 4, 0] rfl ?_
    exact h
theorem sg_X7_isWell_20 {T : Th} {M : Mm} {Q : Int32 → Mm → Prop} {x0 : Nat} {x1 : Int32} {x2 : Int32} {x3 : Int32} {x4 : Int32} (h0 : isX7 T x0)
    (h : ((M.1 x0 31) ≤ x4 → WPv T mX7_pass [.ref x0] M (fun M1 => ∀ v2 : Int32, v2 = x3 + 1 → WP T mX7_isWell 11 [(0, .ref x0), (1, .int x1), (2, .int x2), (3, .int v2)] [] M1 (qi Q))) ∧ (¬ (M.1 x0 31) ≤ x4 → vp_in x4 3 ∧ (∀ v1 : Int32, v1 = M.1 (x0 + 20) x4.toNatClampNeg → vp_in (11 + v1) 31 ∧ ((x4 = x1 → vp_in (11 + v1) 31 ∧ (∀ M2 : Mm, M2 = sI M (x0 + 18) (11 + v1).toNatClampNeg ((M.1 (x0 + 18) (11 + v1).toNatClampNeg) + 0) → ∀ v3 : Int32, v3 = x4 + 1 → WP T mX7_isWell 20 [(0, .ref x0), (1, .int x1), (2, .int x2), (3, .int x3), (4, .int v3)] [] M2 (qi Q))) ∧ (¬ x4 = x1 → vp_in x4 3 ∧ ((¬ (M.1 (x0 + 22) x4.toNatClampNeg) = x3 → vp_in (11 + v1) 31 ∧ (∀ M2 : Mm, M2 = sI M (x0 + 18) (11 + v1).toNatClampNeg ((M.1 (x0 + 18) (11 + v1).toNatClampNeg) + 0) → ∀ v3 : Int32, v3 = x4 + 1 → WP T mX7_isWell 20 [(0, .ref x0), (1, .int x1), (2, .int x2), (3, .int x3), (4, .int v3)] [] M2 (qi Q))) ∧ ((M.1 (x0 + 22) x4.toNatClampNeg) = x3 → vp_in (21 + v1) 31 ∧ ((¬ (M.1 (x0 + 18) (21 + v1).toNatClampNeg) = 0 → vp_in (11 + v1) 31 ∧ (∀ M2 : Mm, M2 = sI M (x0 + 18) (11 + v1).toNatClampNeg ((M.1 (x0 + 18) (11 + v1).toNatClampNeg) + 0) → ∀ v3 : Int32, v3 = x4 + 1 → WP T mX7_isWell 20 [(0, .ref x0), (1, .int x1), (2, .int x2), (3, .int x3), (4, .int v3)] [] M2 (qi Q))) ∧ ((M.1 (x0 + 18) (21 + v1).toNatClampNeg) = 0 → vp_in x4 3 ∧ (vp_in (11 + v1) 31 ∧ (∀ M2 : Mm, M2 = sI M (x0 + 18) (11 + v1).toNatClampNeg ((M.1 (x0 + 18) (11 + v1).toNatClampNeg) + (M.1 (x0 + 21) x4.toNatClampNeg)) → ∀ v3 : Int32, v3 = x4 + 1 → WP T mX7_isWell 20 [(0, .ref x0), (1, .int x1), (2, .int x2), (3, .int x3), (4, .int v3)] [] M2 (qi Q)))))))))))) :
    WP T mX7_isWell 20 [(0, .ref x0), (1, .int x1), (2, .int x2), (3, .int x3), (4, .int x4)] [] M (qi Q) := by
  refine WP.iload 4 (dg tX7_isWell 12 rfl) rfl ?_
  refine WP.aload_n 0 (dg tX7_isWell 13 rfl) rfl rfl ?_
  refine WP.getI fX7_207 h0.1 (dg tX7_isWell 14 rfl) ?_
  refine WP.icmp_ge (tgt := 98) (dg tX7_isWell 15 rfl) (by decide) (fun z => ?_) (fun z => ?_)
  · replace h := h.1 z
    refine WP.aload_n 0 (dg tX7_isWell 54 rfl) rfl rfl ?_
    refine WP.callVv (As := []) (st := []) vX7_195 h0.1 rfl rfl ⟨Nat.le_of_ble_eq_true rfl, Nat.le_of_ble_eq_true rfl⟩ (Nat.le_of_ble_eq_true rfl) rfl (dg tX7_isWell 55 rfl) h (fun M1 h => ?_)
    obtain ⟨v2, e_v2⟩ : ∃ y : Int32, y = x3 + 1 := ⟨_, rfl⟩
    have h := h v2 e_v2
    refine WP.iinc (v := v2) (L2 := [(3, .int v2), (0, .ref x0), (1, .int x1), (2, .int x2), (4, .int x4)]) 3 (dg tX7_isWell 56 rfl) rfl (by rw [e_v2]; rfl) (by decide) rfl ?_
    refine WP.goto (tgt := 11) (dg tX7_isWell 57 rfl) (by decide) ?_
    refine WP.sub [1, 2, 3, 0] rfl ?_
    exact h
  · replace h := h.2 z
    refine WP.aload_n 0 (dg tX7_isWell 16 rfl) rfl rfl ?_
    refine WP.getF fX7_69 h0.1 (dg tX7_isWell 17 rfl) ?_
    refine WP.iload 4 (dg tX7_isWell 18 rfl) rfl ?_
    obtain ⟨hb35, h⟩ := h
    refine WP.iald h0.2.2.2.2.2.2.2.2.2.2.2.2.2.2.2.2.2.2.2.2.1 hb35 (dg tX7_isWell 19 rfl) ?_
    refine WP.topi (fun v1 e_v1 => ?_)
    have h := h v1 e_v1
    refine WP.istore (L2 := [(5, .int v1), (0, .ref x0), (1, .int x1), (2, .int x2), (3, .int x3), (4, .int x4)]) (dg tX7_isWell 20 rfl) (by decide) rfl ?_
    refine WP.aload_n 1 (dg tX7_isWell 21 rfl) rfl rfl ?_
    refine WP.getF fX7_62 h0.1 (dg tX7_isWell 22 rfl) ?_
    refine WP.bipush (v := 11) (dg tX7_isWell 23 rfl) (by decide) ?_
    refine WP.iload 0 (dg tX7_isWell 24 rfl) rfl ?_
    refine WP.iadd (dg tX7_isWell 25 rfl) ?_
    refine WP.dup2 (dg tX7_isWell 26 rfl) rfl rfl ?_
    obtain ⟨hb48, h⟩ := h
    refine WP.iald h0.2.2.2.2.2.2.2.2.2.2.2.2.2.2.2.2.2.2.1 hb48 (dg tX7_isWell 27 rfl) ?_
    refine WP.iload 5 (dg tX7_isWell 28 rfl) rfl ?_
    refine WP.iload_n 2 (dg tX7_isWell 29 rfl) rfl rfl ?_
    refine WP.icmp_eq (tgt := 89) (dg tX7_isWell 30 rfl) (by decide) (fun z => ?_) (fun z => ?_)
    · replace h := h.1 z
      refine WP.iconst (v := 0) (dg tX7_isWell 49 rfl) (by decide) ?_
      refine WP.iadd (dg tX7_isWell 50 rfl) ?_
      obtain ⟨hb91, h⟩ := h
      refine WP.iast h0.2.2.2.2.2.2.2.2.2.2.2.2.2.2.2.2.2.2.1 hb91 (dg tX7_isWell 51 rfl) (fun M2 e_M2 => ?_)
      have h := h M2 e_M2
      obtain ⟨v3, e_v3⟩ : ∃ y : Int32, y = x4 + 1 := ⟨_, rfl⟩
      have h := h v3 e_v3
      refine WP.iinc (v := v3) (L2 := [(4, .int v3), (5, .int v1), (0, .ref x0), (1, .int x1), (2, .int x2), (3, .int x3)]) 5 (dg tX7_isWell 52 rfl) rfl (by rw [e_v3]; rfl) (by decide) rfl ?_
      refine WP.goto (tgt := 20) (dg tX7_isWell 53 rfl) (by decide) ?_
      refine WP.sub [2, 3, 4, 5, 0] rfl ?_
      exact h
    · replace h := h.2 z
      refine WP.aload_n 1 (dg tX7_isWell 31 rfl) rfl rfl ?_
      refine WP.getF fX7_75 h0.1 (dg tX7_isWell 32 rfl) ?_
      refine WP.iload 5 (dg tX7_isWell 33 rfl) rfl ?_
      obtain ⟨hb61, h⟩ := h
      refine WP.iald h0.2.2.2.2.2.2.2.2.2.2.2.2.2.2.2.2.2.2.2.2.2.2.1 hb61 (dg tX7_isWell 34 rfl) ?_
      refine WP.iload_n 4 (dg tX7_isWell 35 rfl) rfl rfl ?_
      refine WP.icmp_ne (tgt := 89) (dg tX7_isWell 36 rfl) (by decide) (fun z => ?_) (fun z => ?_)
      · replace h := h.1 z
        refine WP.iconst (v := 0) (dg tX7_isWell 49 rfl) (by decide) ?_
        refine WP.iadd (dg tX7_isWell 50 rfl) ?_
        obtain ⟨hb91, h⟩ := h
        refine WP.iast h0.2.2.2.2.2.2.2.2.2.2.2.2.2.2.2.2.2.2.1 hb91 (dg tX7_isWell 51 rfl) (fun M2 e_M2 => ?_)
        have h := h M2 e_M2
        obtain ⟨v3, e_v3⟩ : ∃ y : Int32, y = x4 + 1 := ⟨_, rfl⟩
        have h := h v3 e_v3
        refine WP.iinc (v := v3) (L2 := [(4, .int v3), (5, .int v1), (0, .ref x0), (1, .int x1), (2, .int x2), (3, .int x3)]) 5 (dg tX7_isWell 52 rfl) rfl (by rw [e_v3]; rfl) (by decide) rfl ?_
        refine WP.goto (tgt := 20) (dg tX7_isWell 53 rfl) (by decide) ?_
        refine WP.sub [2, 3, 4, 5, 0] rfl ?_
        exact h
      · replace h := h.2 z
        refine WP.aload_n 1 (dg tX7_isWell 37 rfl) rfl rfl ?_
        refine WP.getF fX7_62 h0.1 (dg tX7_isWell 38 rfl) ?_
        refine WP.bipush (v := 21) (dg tX7_isWell 39 rfl) (by decide) ?_
        refine WP.iload 0 (dg tX7_isWell 40 rfl) rfl ?_
        refine WP.iadd (dg tX7_isWell 41 rfl) ?_
        obtain ⟨hb75, h⟩ := h
        refine WP.iald h0.2.2.2.2.2.2.2.2.2.2.2.2.2.2.2.2.2.2.1 hb75 (dg tX7_isWell 42 rfl) ?_
        refine WP.if_ne (tgt := 89) (dg tX7_isWell 43 rfl) (by decide) (fun z => ?_) (fun z => ?_)
        · replace h := h.1 z
          refine WP.iconst (v := 0) (dg tX7_isWell 49 rfl) (by decide) ?_
          refine WP.iadd (dg tX7_isWell 50 rfl) ?_
          obtain ⟨hb91, h⟩ := h
          refine WP.iast h0.2.2.2.2.2.2.2.2.2.2.2.2.2.2.2.2.2.2.1 hb91 (dg tX7_isWell 51 rfl) (fun M2 e_M2 => ?_)
          have h := h M2 e_M2
          obtain ⟨v3, e_v3⟩ : ∃ y : Int32, y = x4 + 1 := ⟨_, rfl⟩
          have h := h v3 e_v3
          refine WP.iinc (v := v3) (L2 := [(4, .int v3), (5, .int v1), (0, .ref x0), (1, .int x1), (2, .int x2), (3, .int x3)]) 5 (dg tX7_isWell 52 rfl) rfl (by rw [e_v3]; rfl) (by decide) rfl ?_
          refine WP.goto (tgt := 20) (dg tX7_isWell 53 rfl) (by decide) ?_
          refine WP.sub [2, 3, 4, 5, 0] rfl ?_
          exact h
        · replace h := h.2 z
          refine WP.aload_n 1 (dg tX7_isWell 44 rfl) rfl rfl ?_
          refine WP.getF fX7_72 h0.1 (dg tX7_isWell 45 rfl) ?_
          refine WP.iload 5 (dg tX7_isWell 46 rfl) rfl ?_
          obtain ⟨hb85, h⟩ := h
          refine WP.iald h0.2.2.2.2.2.2.2.2.2.2.2.2.2.2.2.2.2.2.2.2.2.1 hb85 (dg tX7_isWell 47 rfl) ?_
          refine WP.goto (tgt := 90) (dg tX7_isWell 48 rfl) (by decide) ?_
          refine WP.iadd (dg tX7_isWell 50 rfl) ?_
          obtain ⟨hb91, h⟩ := h
          refine WP.iast h0.2.2.2.2.2.2.2.2.2.2.2.2.2.2.2.2.2.2.1 hb91 (dg tX7_isWell 51 rfl) (fun M2 e_M2 => ?_)
          have h := h M2 e_M2
          obtain ⟨v3, e_v3⟩ : ∃ y : Int32, y = x4 + 1 := ⟨_, rfl⟩
          have h := h v3 e_v3
          refine WP.iinc (v := v3) (L2 := [(4, .int v3), (5, .int v1), (0, .ref x0), (1, .int x1), (2, .int x2), (3, .int x3)]) 5 (dg tX7_isWell 52 rfl) rfl (by rw [e_v3]; rfl) (by decide) rfl ?_
          refine WP.goto (tgt := 20) (dg tX7_isWell 53 rfl) (by decide) ?_
          refine WP.sub [2, 3, 4, 5, 0] rfl ?_
          exact h
theorem sg_X7_findStarts_0 {T : Th} {M : Mm} {Q : Int32 → Mm → Prop} {x0 : Nat} {x1 : Int32} (h0 : isX7 T x0)
    (h : WPv T mX7_findLacking [.ref x0] M (fun M1 => WP T mX7_findStarts 12 [(0, .ref x0), (1, .int x1), (2, .int (-9)), (3, .int 1), (4, .int 0)] [] M1 (qi Q))) :
    WP T mX7_findStarts 0 [(0, .ref x0), (1, .int x1)] [] M (qi Q) := by
  refine WP.aload_n 0 (dg tX7_findStarts 0 rfl) rfl rfl ?_
  refine WP.callVv (As := []) (st := []) vX7_210 h0.1 rfl rfl ⟨Nat.le_of_ble_eq_true rfl, Nat.le_of_ble_eq_true rfl⟩ (Nat.le_of_ble_eq_true rfl) rfl (dg tX7_findStarts 1 rfl) h (fun M1 h => ?_)
  refine WP.bipush (v := (-9)) (dg tX7_findStarts 2 rfl) (by decide) ?_
  refine WP.istore_n (L2 := [(2, .int (-9)), (0, .ref x0), (1, .int x1)]) (dg tX7_findStarts 3 rfl) rfl (by decide) rfl ?_
  refine WP.iconst (v := 1) (dg tX7_findStarts 4 rfl) (by decide) ?_
  refine WP.istore_n (L2 := [(3, .int 1), (2, .int (-9)), (0, .ref x0), (1, .int x1)]) (dg tX7_findStarts 5 rfl) rfl (by decide) rfl ?_
  refine WP.iconst (v := 0) (dg tX7_findStarts 6 rfl) (by decide) ?_
  refine WP.istore (L2 := [(4, .int 0), (3, .int 1), (2, .int (-9)), (0, .ref x0), (1, .int x1)]) (dg tX7_findStarts 7 rfl) (by decide) rfl ?_
  refine WP.sub [3, 4, 2, 1, 0] rfl ?_
  exact h
theorem sg_X7_findStarts_12 {T : Th} {M : Mm} {Q : Int32 → Mm → Prop} {x0 : Nat} {x1 : Int32} {x2 : Int32} {x3 : Int32} {x4 : Int32} (h0 : isX7 T x0)
    (h : ((M.1 x0 31) ≤ x4 → WP T mX7_findStarts 35 [(0, .ref x0), (1, .int x1), (2, .int x2), (3, .int x3), (4, .int 0)] [] M (qi Q)) ∧ (¬ (M.1 x0 31) ≤ x4 → ∀ v1 : Int32, v1 = x3 * 7 → ∀ v2 : Int32, v2 = x4 + 1 → WP T mX7_findStarts 12 [(0, .ref x0), (1, .int x1), (2, .int x2), (3, .int v1), (4, .int v2)] [] M (qi Q))) :
    WP T mX7_findStarts 12 [(0, .ref x0), (1, .int x1), (2, .int x2), (3, .int x3), (4, .int x4)] [] M (qi Q) := by
  refine WP.iload 4 (dg tX7_findStarts 8 rfl) rfl ?_
  refine WP.aload_n 0 (dg tX7_findStarts 9 rfl) rfl rfl ?_
  refine WP.getI fX7_207 h0.1 (dg tX7_findStarts 10 rfl) ?_
  refine WP.icmp_ge (tgt := 32) (dg tX7_findStarts 11 rfl) (by decide) (fun z => ?_) (fun z => ?_)
  · replace h := h.1 z
    refine WP.iconst (v := 0) (dg tX7_findStarts 18 rfl) (by decide) ?_
    refine WP.istore (L2 := [(4, .int 0), (0, .ref x0), (1, .int x1), (2, .int x2), (3, .int x3)]) (dg tX7_findStarts 19 rfl) (by decide) rfl ?_
    refine WP.sub [1, 2, 3, 4, 0] rfl ?_
    exact h
  · replace h := h.2 z
    refine WP.iload_n 3 (dg tX7_findStarts 12 rfl) rfl rfl ?_
    refine WP.bipush (v := 7) (dg tX7_findStarts 13 rfl) (by decide) ?_
    refine WP.imul (dg tX7_findStarts 14 rfl) ?_
    refine WP.topi (fun v1 e_v1 => ?_)
    have h := h v1 e_v1
    refine WP.istore_n (L2 := [(3, .int v1), (0, .ref x0), (1, .int x1), (2, .int x2), (4, .int x4)]) (dg tX7_findStarts 15 rfl) rfl (by decide) rfl ?_
    obtain ⟨v2, e_v2⟩ : ∃ y : Int32, y = x4 + 1 := ⟨_, rfl⟩
    have h := h v2 e_v2
    refine WP.iinc (v := v2) (L2 := [(4, .int v2), (3, .int v1), (0, .ref x0), (1, .int x1), (2, .int x2)]) 4 (dg tX7_findStarts 16 rfl) rfl (by rw [e_v2]; rfl) (by decide) rfl ?_
    refine WP.goto (tgt := 12) (dg tX7_findStarts 17 rfl) (by decide) ?_
    refine WP.sub [2, 3, 4, 1, 0] rfl ?_
    exact h
theorem sg_X7_findStarts_35 {T : Th} {M : Mm} {Q : Int32 → Mm → Prop} {x0 : Nat} {x1 : Int32} {x2 : Int32} {x3 : Int32} {x4 : Int32} (h0 : isX7 T x0)
    (h : (x3 ≤ x4 → Q x2 M) ∧ (¬ x3 ≤ x4 → ∀ v1 : Int32, v1 = (M.1 x0 31) - 1 → WP T mX7_findStarts 56 [(0, .ref x0), (1, .int x1), (2, .int x2), (3, .int x3), (4, .int x4), (5, .int x4), (6, .int 0), (7, .int v1)] [] M (qi Q))) :
    WP T mX7_findStarts 35 [(0, .ref x0), (1, .int x1), (2, .int x2), (3, .int x3), (4, .int x4)] [] M (qi Q) := by
  refine WP.iload 4 (dg tX7_findStarts 20 rfl) rfl ?_
  refine WP.iload_n 3 (dg tX7_findStarts 21 rfl) rfl rfl ?_
  refine WP.icmp_ge (tgt := 186) (dg tX7_findStarts 22 rfl) (by decide) (fun z => ?_) (fun z => ?_)
  · replace h := h.1 z
    refine WP.iload_n 2 (dg tX7_findStarts 98 rfl) rfl rfl ?_
    exact WP.iret rfl (dg tX7_findStarts 99 rfl) ⟨_, rfl, h⟩
  · replace h := h.2 z
    refine WP.iload 4 (dg tX7_findStarts 23 rfl) rfl ?_
    refine WP.istore (L2 := [(5, .int x4), (0, .ref x0), (1, .int x1), (2, .int x2), (3, .int x3), (4, .int x4)]) (dg tX7_findStarts 24 rfl) (by decide) rfl ?_
    refine WP.iconst (v := 0) (dg tX7_findStarts 25 rfl) (by decide) ?_
    refine WP.istore (L2 := [(6, .int 0), (5, .int x4), (0, .ref x0), (1, .int x1), (2, .int x2), (3, .int x3), (4, .int x4)]) (dg tX7_findStarts 26 rfl) (by decide) rfl ?_
    refine WP.aload_n 2 (dg tX7_findStarts 27 rfl) rfl rfl ?_
    refine WP.getI fX7_207 h0.1 (dg tX7_findStarts 28 rfl) ?_
    refine WP.iconst (v := 1) (dg tX7_findStarts 29 rfl) (by decide) ?_
    refine WP.isub (dg tX7_findStarts 30 rfl) ?_
    refine WP.topi (fun v1 e_v1 => ?_)
    have h := h v1 e_v1
    refine WP.istore (L2 := [(7, .int v1), (6, .int 0), (5, .int x4), (0, .ref x0), (1, .int x1), (2, .int x2), (3, .int x3), (4, .int x4)]) (dg tX7_findStarts 31 rfl) (by decide) rfl ?_
    refine WP.sub [3, 4, 5, 6, 7, 2, 1, 0] rfl ?_
    exact h
theorem sg_X7_findStarts_56 {T : Th} {M : Mm} {Q : Int32 → Mm → Prop} {x0 : Nat} {x1 : Int32} {x2 : Int32} {x3 : Int32} {x4 : Int32} {x5 : Int32} {x6 : Int32} {x7 : Int32} (h0 : isX7 T x0)
    (h : (x7 < 0 → (x1 = (-9) → WP T mX7_findStarts 118 [(0, .ref x0), (1, .int x1), (2, .int x2), (3, .int x3), (4, .int x4), (6, .int x6)] [.int 1] M (qi Q)) ∧ (¬ x1 = (-9) → vp_in x1 3 ∧ ((¬ (M.1 (x0 + 22) x1.toNatClampNeg) = 0 → WP T mX7_findStarts 118 [(0, .ref x0), (1, .int x1), (2, .int x2), (3, .int x3), (4, .int x4), (6, .int x6)] [.int 0] M (qi Q)) ∧ ((M.1 (x0 + 22) x1.toNatClampNeg) = 0 → WP T mX7_findStarts 118 [(0, .ref x0), (1, .int x1), (2, .int x2), (3, .int x3), (4, .int x4), (6, .int x6)] [.int 1] M (qi Q))))) ∧ (¬ x7 < 0 → vp_in x7 3 ∧ (∀ M1 : Mm, M1 = sI M (x0 + 22) x7.toNatClampNeg (x5 - x5 / 7 * 7) → vp_in x7 3 ∧ (∀ v2 : Int32, v2 = x6 + (M1.1 (x0 + 22) x7.toNatClampNeg) → ∀ v3 : Int32, v3 = x5 / 7 → ∀ v4 : Int32, v4 = x7 + (-1) → WP T mX7_findStarts 56 [(0, .ref x0), (1, .int x1), (2, .int x2), (3, .int x3), (4, .int x4), (5, .int v3), (6, .int v2), (7, .int v4)] [] M1 (qi Q))))) :
    WP T mX7_findStarts 56 [(0, .ref x0), (1, .int x1), (2, .int x2), (3, .int x3), (4, .int x4), (5, .int x5), (6, .int x6), (7, .int x7)] [] M (qi Q) := by
  refine WP.iload 7 (dg tX7_findStarts 32 rfl) rfl ?_
  refine WP.if_lt (tgt := 98) (dg tX7_findStarts 33 rfl) (by decide) (fun z => ?_) (fun z => ?_)
  · replace h := h.1 z
    refine WP.iload_n 1 (dg tX7_findStarts 54 rfl) rfl rfl ?_
    refine WP.bipush (v := (-9)) (dg tX7_findStarts 55 rfl) (by decide) ?_
    refine WP.icmp_eq (tgt := 113) (dg tX7_findStarts 56 rfl) (by decide) (fun z => ?_) (fun z => ?_)
    · replace h := h.1 z
      refine WP.iconst (v := 1) (dg tX7_findStarts 62 rfl) (by decide) ?_
      refine WP.goto (tgt := 118) (dg tX7_findStarts 63 rfl) (by decide) ?_
      refine WP.sub [0, 1, 2, 3, 4, 6] rfl ?_
      exact h
    · replace h := h.2 z
      refine WP.aload_n 0 (dg tX7_findStarts 57 rfl) rfl rfl ?_
      refine WP.getF fX7_75 h0.1 (dg tX7_findStarts 58 rfl) ?_
      refine WP.iload_n 1 (dg tX7_findStarts 59 rfl) rfl rfl ?_
      obtain ⟨hb109, h⟩ := h
      refine WP.iald h0.2.2.2.2.2.2.2.2.2.2.2.2.2.2.2.2.2.2.2.2.2.2.1 hb109 (dg tX7_findStarts 60 rfl) ?_
      refine WP.if_ne (tgt := 117) (dg tX7_findStarts 61 rfl) (by decide) (fun z => ?_) (fun z => ?_)
      · replace h := h.1 z
        refine WP.iconst (v := 0) (dg tX7_findStarts 64 rfl) (by decide) ?_
        refine WP.sub [0, 1, 2, 3, 4, 6] rfl ?_
        exact h
      · replace h := h.2 z
        refine WP.iconst (v := 1) (dg tX7_findStarts 62 rfl) (by decide) ?_
        refine WP.goto (tgt := 118) (dg tX7_findStarts 63 rfl) (by decide) ?_
        refine WP.sub [0, 1, 2, 3, 4, 6] rfl ?_
        exact h
  · replace h := h.2 z
    refine WP.aload_n 0 (dg tX7_findStarts 34 rfl) rfl rfl ?_
    refine WP.getF fX7_75 h0.1 (dg tX7_findStarts 35 rfl) ?_
    refine WP.iload 7 (dg tX7_findStarts 36 rfl) rfl ?_
    refine WP.iload 5 (dg tX7_findStarts 37 rfl) rfl ?_
    refine WP.bipush (v := 7) (dg tX7_findStarts 38 rfl) (by decide) ?_
    refine WP.irem (dg tX7_findStarts 39 rfl) (by decide) ?_
    obtain ⟨hb72, h⟩ := h
    refine WP.iast h0.2.2.2.2.2.2.2.2.2.2.2.2.2.2.2.2.2.2.2.2.2.2.1 hb72 (dg tX7_findStarts 40 rfl) (fun M1 e_M1 => ?_)
    have h := h M1 e_M1
    refine WP.iload 6 (dg tX7_findStarts 41 rfl) rfl ?_
    refine WP.aload_n 0 (dg tX7_findStarts 42 rfl) rfl rfl ?_
    refine WP.getF fX7_75 h0.1 (dg tX7_findStarts 43 rfl) ?_
    refine WP.iload 7 (dg tX7_findStarts 44 rfl) rfl ?_
    obtain ⟨hb81, h⟩ := h
    refine WP.iald h0.2.2.2.2.2.2.2.2.2.2.2.2.2.2.2.2.2.2.2.2.2.2.1 hb81 (dg tX7_findStarts 45 rfl) ?_
    refine WP.iadd (dg tX7_findStarts 46 rfl) ?_
    refine WP.topi (fun v2 e_v2 => ?_)
    have h := h v2 e_v2
    refine WP.istore (L2 := [(6, .int v2), (0, .ref x0), (1, .int x1), (2, .int x2), (3, .int x3), (4, .int x4), (5, .int x5), (7, .int x7)]) (dg tX7_findStarts 47 rfl) (by decide) rfl ?_
    refine WP.iload 6 (dg tX7_findStarts 48 rfl) rfl ?_
    refine WP.bipush (v := 7) (dg tX7_findStarts 49 rfl) (by decide) ?_
    refine WP.idiv (dg tX7_findStarts 50 rfl) (by decide) ?_
    refine WP.topi (fun v3 e_v3 => ?_)
    have h := h v3 e_v3
    refine WP.istore (L2 := [(5, .int v3), (6, .int v2), (0, .ref x0), (1, .int x1), (2, .int x2), (3, .int x3), (4, .int x4), (7, .int x7)]) (dg tX7_findStarts 51 rfl) (by decide) rfl ?_
    obtain ⟨v4, e_v4⟩ : ∃ y : Int32, y = x7 + (-1) := ⟨_, rfl⟩
    have h := h v4 e_v4
    refine WP.iinc (v := v4) (L2 := [(7, .int v4), (5, .int v3), (6, .int v2), (0, .ref x0), (1, .int x1), (2, .int x2), (3, .int x3), (4, .int x4)]) 7 (dg tX7_findStarts 52 rfl) rfl (by rw [e_v4]; rfl) (by decide) rfl ?_
    refine WP.goto (tgt := 56) (dg tX7_findStarts 53 rfl) (by decide) ?_
    refine WP.sub [3, 4, 5, 6, 7, 1, 2, 0] rfl ?_
    exact h
theorem sg_X7_findStarts_118 {T : Th} {M : Mm} {Q : Int32 → Mm → Prop} {x0 : Nat} {x1 : Int32} {x2 : Int32} {x3 : Int32} {x4 : Int32} {x6 : Int32} {s0 : Int32} (h0 : isX7 T x0)
    (h : (s0 = 0 → ∀ v1 : Int32, v1 = x4 + 1 → WP T mX7_findStarts 35 [(0, .ref x0), (1, .int x1), (2, .int x2), (3, .int x3), (4, .int v1)] [] M (qi Q)) ∧ (¬ s0 = 0 → (x2 = (-9) → WPi T mX7_isWell [.ref x0, .int x1] M (fun v2 M1 => (v2 = 0 → ∀ v3 : Int32, v3 = x4 + 1 → WP T mX7_findStarts 35 [(0, .ref x0), (1, .int x1), (2, .int x2), (3, .int x3), (4, .int v3)] [] M1 (qi Q)) ∧ (¬ v2 = 0 → WP T mX7_findStarts 151 [(0, .ref x0), (1, .int x1), (2, .int x6), (3, .int x3), (4, .int x4), (8, .int 0)] [] M1 (qi Q)))) ∧ (¬ x2 = (-9) → (x2 ≤ x6 → ∀ v1 : Int32, v1 = x4 + 1 → WP T mX7_findStarts 35 [(0, .ref x0), (1, .int x1), (2, .int x2), (3, .int x3), (4, .int v1)] [] M (qi Q)) ∧ (¬ x2 ≤ x6 → WPi T mX7_isWell [.ref x0, .int x1] M (fun v2 M1 => (v2 = 0 → ∀ v3 : Int32, v3 = x4 + 1 → WP T mX7_findStarts 35 [(0, .ref x0), (1, .int x1), (2, .int x2), (3, .int x3), (4, .int v3)] [] M1 (qi Q)) ∧ (¬ v2 = 0 → WP T mX7_findStarts 151 [(0, .ref x0), (1, .int x1), (2, .int x6), (3, .int x3), (4, .int x4), (8, .int 0)] [] M1 (qi Q))))))) :
    WP T mX7_findStarts 118 [(0, .ref x0), (1, .int x1), (2, .int x2), (3, .int x3), (4, .int x4), (6, .int x6)] [.int s0] M (qi Q) := by
  refine WP.istore (L2 := [(7, .int s0), (0, .ref x0), (1, .int x1), (2, .int x2), (3, .int x3), (4, .int x4), (6, .int x6)]) (dg tX7_findStarts 65 rfl) (by decide) rfl ?_
  refine WP.iload 0 (dg tX7_findStarts 66 rfl) rfl ?_
  refine WP.if_eq (tgt := 180) (dg tX7_findStarts 67 rfl) (by decide) (fun z => ?_) (fun z => ?_)
  · replace h := h.1 z
    obtain ⟨v1, e_v1⟩ : ∃ y : Int32, y = x4 + 1 := ⟨_, rfl⟩
    have h := h v1 e_v1
    refine WP.iinc (v := v1) (L2 := [(4, .int v1), (7, .int s0), (0, .ref x0), (1, .int x1), (2, .int x2), (3, .int x3), (6, .int x6)]) 5 (dg tX7_findStarts 96 rfl) rfl (by rw [e_v1]; rfl) (by decide) rfl ?_
    refine WP.goto (tgt := 35) (dg tX7_findStarts 97 rfl) (by decide) ?_
    refine WP.sub [2, 3, 4, 5, 0] rfl ?_
    exact h
  · replace h := h.2 z
    refine WP.iload_n 3 (dg tX7_findStarts 68 rfl) rfl rfl ?_
    refine WP.bipush (v := (-9)) (dg tX7_findStarts 69 rfl) (by decide) ?_
    refine WP.icmp_eq (tgt := 137) (dg tX7_findStarts 70 rfl) (by decide) (fun z => ?_) (fun z => ?_)
    · replace h := h.1 z
      refine WP.aload_n 1 (dg tX7_findStarts 74 rfl) rfl rfl ?_
      refine WP.iload_n 2 (dg tX7_findStarts 75 rfl) rfl rfl ?_
      refine WP.callVi (As := [.int x1]) (st := []) vX7_213 h0.1 rfl rfl ⟨Nat.le_of_ble_eq_true rfl, Nat.le_of_ble_eq_true rfl⟩ (Nat.le_of_ble_eq_true rfl) rfl (dg tX7_findStarts 76 rfl) h (fun v2 M1 h => ?_)
      refine WP.if_eq (tgt := 180) (dg tX7_findStarts 77 rfl) (by decide) (fun z => ?_) (fun z => ?_)
      · replace h := h.1 z
        obtain ⟨v3, e_v3⟩ : ∃ y : Int32, y = x4 + 1 := ⟨_, rfl⟩
        have h := h v3 e_v3
        refine WP.iinc (v := v3) (L2 := [(4, .int v3), (7, .int s0), (0, .ref x0), (1, .int x1), (2, .int x2), (3, .int x3), (6, .int x6)]) 5 (dg tX7_findStarts 96 rfl) rfl (by rw [e_v3]; rfl) (by decide) rfl ?_
        refine WP.goto (tgt := 35) (dg tX7_findStarts 97 rfl) (by decide) ?_
        refine WP.sub [2, 3, 4, 5, 0] rfl ?_
        exact h
      · replace h := h.2 z
        refine WP.iload 6 (dg tX7_findStarts 78 rfl) rfl ?_
        refine WP.istore_n (L2 := [(2, .int x6), (7, .int s0), (0, .ref x0), (1, .int x1), (3, .int x3), (4, .int x4), (6, .int x6)]) (dg tX7_findStarts 79 rfl) rfl (by decide) rfl ?_
        refine WP.iconst (v := 0) (dg tX7_findStarts 80 rfl) (by decide) ?_
        refine WP.istore (L2 := [(8, .int 0), (2, .int x6), (7, .int s0), (0, .ref x0), (1, .int x1), (3, .int x3), (4, .int x4), (6, .int x6)]) (dg tX7_findStarts 81 rfl) (by decide) rfl ?_
        refine WP.sub [3, 4, 1, 5, 6, 0] rfl ?_
        exact h
    · replace h := h.2 z
      refine WP.iload 6 (dg tX7_findStarts 71 rfl) rfl ?_
      refine WP.iload_n 3 (dg tX7_findStarts 72 rfl) rfl rfl ?_
      refine WP.icmp_ge (tgt := 180) (dg tX7_findStarts 73 rfl) (by decide) (fun z => ?_) (fun z => ?_)
      · replace h := h.1 z
        obtain ⟨v1, e_v1⟩ : ∃ y : Int32, y = x4 + 1 := ⟨_, rfl⟩
        have h := h v1 e_v1
        refine WP.iinc (v := v1) (L2 := [(4, .int v1), (7, .int s0), (0, .ref x0), (1, .int x1), (2, .int x2), (3, .int x3), (6, .int x6)]) 5 (dg tX7_findStarts 96 rfl) rfl (by rw [e_v1]; rfl) (by decide) rfl ?_
        refine WP.goto (tgt := 35) (dg tX7_findStarts 97 rfl) (by decide) ?_
        refine WP.sub [2, 3, 4, 5, 0] rfl ?_
        exact h
      · replace h := h.2 z
        refine WP.aload_n 1 (dg tX7_findStarts 74 rfl) rfl rfl ?_
        refine WP.iload_n 2 (dg tX7_findStarts 75 rfl) rfl rfl ?_
        refine WP.callVi (As := [.int x1]) (st := []) vX7_213 h0.1 rfl rfl ⟨Nat.le_of_ble_eq_true rfl, Nat.le_of_ble_eq_true rfl⟩ (Nat.le_of_ble_eq_true rfl) rfl (dg tX7_findStarts 76 rfl) h (fun v2 M1 h => ?_)
        refine WP.if_eq (tgt := 180) (dg tX7_findStarts 77 rfl) (by decide) (fun z => ?_) (fun z => ?_)
        · replace h := h.1 z
          obtain ⟨v3, e_v3⟩ : ∃ y : Int32, y = x4 + 1 := ⟨_, rfl⟩
          have h := h v3 e_v3
          refine WP.iinc (v := v3) (L2 := [(4, .int v3), (7, .int s0), (0, .ref x0), (1, .int x1), (2, .int x2), (3, .int x3), (6, .int x6)]) 5 (dg tX7_findStarts 96 rfl) rfl (by rw [e_v3]; rfl) (by decide) rfl ?_
          refine WP.goto (tgt := 35) (dg tX7_findStarts 97 rfl) (by decide) ?_
          refine WP.sub [2, 3, 4, 5, 0] rfl ?_
          exact h
        · replace h := h.2 z
          refine WP.iload 6 (dg tX7_findStarts 78 rfl) rfl ?_
          refine WP.istore_n (L2 := [(2, .int x6), (7, .int s0), (0, .ref x0), (1, .int x1), (3, .int x3), (4, .int x4), (6, .int x6)]) (dg tX7_findStarts 79 rfl) rfl (by decide) rfl ?_
          refine WP.iconst (v := 0) (dg tX7_findStarts 80 rfl) (by decide) ?_
          refine WP.istore (L2 := [(8, .int 0), (2, .int x6), (7, .int s0), (0, .ref x0), (1, .int x1), (3, .int x3), (4, .int x4), (6, .int x6)]) (dg tX7_findStarts 81 rfl) (by decide) rfl ?_
          refine WP.sub [3, 4, 1, 5, 6, 0] rfl ?_
          exact h
theorem sg_X7_findStarts_151 {T : Th} {M : Mm} {Q : Int32 → Mm → Prop} {x0 : Nat} {x1 : Int32} {x2 : Int32} {x3 : Int32} {x4 : Int32} {x8 : Int32} (h0 : isX7 T x0)
    (h : ((M.1 x0 31) ≤ x8 → ∀ v1 : Int32, v1 = x4 + 1 → WP T mX7_findStarts 35 [(0, .ref x0), (1, .int x1), (2, .int x2), (3, .int x3), (4, .int v1)] [] M (qi Q)) ∧ (¬ (M.1 x0 31) ≤ x8 → vp_in x8 3 ∧ (vp_in x8 3 ∧ (∀ M1 : Mm, M1 = sI M (x0 + 23) x8.toNatClampNeg (M.1 (x0 + 22) x8.toNatClampNeg) → ∀ v2 : Int32, v2 = x8 + 1 → WP T mX7_findStarts 151 [(0, .ref x0), (1, .int x1), (2, .int x2), (3, .int x3), (4, .int x4), (8, .int v2)] [] M1 (qi Q))))) :
    WP T mX7_findStarts 151 [(0, .ref x0), (1, .int x1), (2, .int x2), (3, .int x3), (4, .int x4), (8, .int x8)] [] M (qi Q) := by
  refine WP.iload 5 (dg tX7_findStarts 82 rfl) rfl ?_
  refine WP.aload_n 0 (dg tX7_findStarts 83 rfl) rfl rfl ?_
  refine WP.getI fX7_207 h0.1 (dg tX7_findStarts 84 rfl) ?_
  refine WP.icmp_ge (tgt := 180) (dg tX7_findStarts 85 rfl) (by decide) (fun z => ?_) (fun z => ?_)
  · replace h := h.1 z
    obtain ⟨v1, e_v1⟩ : ∃ y : Int32, y = x4 + 1 := ⟨_, rfl⟩
    have h := h v1 e_v1
    refine WP.iinc (v := v1) (L2 := [(4, .int v1), (0, .ref x0), (1, .int x1), (2, .int x2), (3, .int x3), (8, .int x8)]) 4 (dg tX7_findStarts 96 rfl) rfl (by rw [e_v1]; rfl) (by decide) rfl ?_
    refine WP.goto (tgt := 35) (dg tX7_findStarts 97 rfl) (by decide) ?_
    refine WP.sub [1, 2, 3, 4, 0] rfl ?_
    exact h
  · replace h := h.2 z
    refine WP.aload_n 0 (dg tX7_findStarts 86 rfl) rfl rfl ?_
    refine WP.getF fX7_78 h0.1 (dg tX7_findStarts 87 rfl) ?_
    refine WP.iload 5 (dg tX7_findStarts 88 rfl) rfl ?_
    refine WP.aload_n 0 (dg tX7_findStarts 89 rfl) rfl rfl ?_
    refine WP.getF fX7_75 h0.1 (dg tX7_findStarts 90 rfl) ?_
    refine WP.iload 5 (dg tX7_findStarts 91 rfl) rfl ?_
    obtain ⟨hb172, h⟩ := h
    refine WP.iald h0.2.2.2.2.2.2.2.2.2.2.2.2.2.2.2.2.2.2.2.2.2.2.1 hb172 (dg tX7_findStarts 92 rfl) ?_
    obtain ⟨hb173, h⟩ := h
    refine WP.iast h0.2.2.2.2.2.2.2.2.2.2.2.2.2.2.2.2.2.2.2.2.2.2.2.1 hb173 (dg tX7_findStarts 93 rfl) (fun M1 e_M1 => ?_)
    have h := h M1 e_M1
    obtain ⟨v2, e_v2⟩ : ∃ y : Int32, y = x8 + 1 := ⟨_, rfl⟩
    have h := h v2 e_v2
    refine WP.iinc (v := v2) (L2 := [(8, .int v2), (0, .ref x0), (1, .int x1), (2, .int x2), (3, .int x3), (4, .int x4)]) 5 (dg tX7_findStarts 94 rfl) rfl (by rw [e_v2]; rfl) (by decide) rfl ?_
    refine WP.goto (tgt := 151) (dg tX7_findStarts 95 rfl) (by decide) ?_
    refine WP.sub [1, 2, 3, 4, 5, 0] rfl ?_
    exact h
theorem sg_X7_starts_0 {T : Th} {M : Mm} {Q : Int32 → Mm → Prop} {x0 : Nat} {x1 : Int32} (h0 : isX7 T x0)
    (h : (x1 = (-1) → WP T mX7_starts 15 [(0, .ref x0), (1, .int x1)] [] M (qi Q)) ∧ (¬ x1 = (-1) → WPi T mX7_isWagon [.ref x0, .int x1] M (fun v2 M1 => (¬ v2 = 0 → WP T mX7_starts 15 [(0, .ref x0), (1, .int x1)] [] M1 (qi Q)) ∧ (v2 = 0 → Q (-1) M1)))) :
    WP T mX7_starts 0 [(0, .ref x0), (1, .int x1)] [] M (qi Q) := by
  refine WP.iload_n 1 (dg tX7_starts 0 rfl) rfl rfl ?_
  refine WP.iconst (v := (-1)) (dg tX7_starts 1 rfl) (by decide) ?_
  refine WP.icmp_eq (tgt := 15) (dg tX7_starts 2 rfl) (by decide) (fun z => ?_) (fun z => ?_)
  · replace h := h.1 z
    exact h
  · replace h := h.2 z
    refine WP.aload_n 0 (dg tX7_starts 3 rfl) rfl rfl ?_
    refine WP.iload_n 1 (dg tX7_starts 4 rfl) rfl rfl ?_
    refine WP.callVi (As := [.int x1]) (st := []) vX7_170 h0.1 rfl rfl ⟨Nat.le_of_ble_eq_true rfl, Nat.le_of_ble_eq_true rfl⟩ (Nat.le_of_ble_eq_true rfl) rfl (dg tX7_starts 5 rfl) h (fun v2 M1 h => ?_)
    refine WP.if_ne (tgt := 15) (dg tX7_starts 6 rfl) (by decide) (fun z => ?_) (fun z => ?_)
    · replace h := h.1 z
      exact h
    · replace h := h.2 z
      refine WP.iconst (v := (-1)) (dg tX7_starts 7 rfl) (by decide) ?_
      exact WP.iret rfl (dg tX7_starts 8 rfl) ⟨_, rfl, h⟩
theorem sg_X7_starts_15 {T : Th} {M : Mm} {Q : Int32 → Mm → Prop} {x0 : Nat} {x1 : Int32} (h0 : isX7 T x0)
    (h : WPi T mX7_findStarts [.ref x0, .int (-9)] M (fun v2 M1 => (v2 = (-9) → Q v2 M1) ∧ (¬ v2 = (-9) → (¬ x1 = (-1) → WP T mX7_starts 40 [(0, .ref x0), (1, .int x1), (3, .int 0), (4, .int 0)] [] M1 (qi Q)) ∧ (x1 = (-1) → Q v2 M1)))) :
    WP T mX7_starts 15 [(0, .ref x0), (1, .int x1)] [] M (qi Q) := by
  refine WP.aload_n 0 (dg tX7_starts 9 rfl) rfl rfl ?_
  refine WP.bipush (v := (-9)) (dg tX7_starts 10 rfl) (by decide) ?_
  refine WP.callVi (As := [.int (-9)]) (st := []) vX7_216 h0.1 rfl rfl ⟨Nat.le_of_ble_eq_true rfl, Nat.le_of_ble_eq_true rfl⟩ (Nat.le_of_ble_eq_true rfl) rfl (dg tX7_starts 11 rfl) h (fun v2 M1 h => ?_)
  refine WP.istore_n (L2 := [(2, .int v2), (0, .ref x0), (1, .int x1)]) (dg tX7_starts 12 rfl) rfl (by decide) rfl ?_
  refine WP.iload_n 0 (dg tX7_starts 13 rfl) rfl rfl ?_
  refine WP.bipush (v := (-9)) (dg tX7_starts 14 rfl) (by decide) ?_
  refine WP.icmp_eq (tgt := 33) (dg tX7_starts 15 rfl) (by decide) (fun z => ?_) (fun z => ?_)
  · replace h := h.1 z
    refine WP.iload_n 0 (dg tX7_starts 19 rfl) rfl rfl ?_
    exact WP.iret rfl (dg tX7_starts 20 rfl) ⟨_, rfl, h⟩
  · replace h := h.2 z
    refine WP.iload_n 2 (dg tX7_starts 16 rfl) rfl rfl ?_
    refine WP.iconst (v := (-1)) (dg tX7_starts 17 rfl) (by decide) ?_
    refine WP.icmp_ne (tgt := 35) (dg tX7_starts 18 rfl) (by decide) (fun z => ?_) (fun z => ?_)
    · replace h := h.1 z
      refine WP.iconst (v := 0) (dg tX7_starts 21 rfl) (by decide) ?_
      refine WP.istore_n (L2 := [(3, .int 0), (2, .int v2), (0, .ref x0), (1, .int x1)]) (dg tX7_starts 22 rfl) rfl (by decide) rfl ?_
      refine WP.iconst (v := 0) (dg tX7_starts 23 rfl) (by decide) ?_
      refine WP.istore (L2 := [(4, .int 0), (3, .int 0), (2, .int v2), (0, .ref x0), (1, .int x1)]) (dg tX7_starts 24 rfl) (by decide) rfl ?_
      refine WP.sub [3, 4, 1, 0] rfl ?_
      exact h
    · replace h := h.2 z
      refine WP.iload_n 0 (dg tX7_starts 19 rfl) rfl rfl ?_
      exact WP.iret rfl (dg tX7_starts 20 rfl) ⟨_, rfl, h⟩
theorem sg_X7_starts_40 {T : Th} {M : Mm} {Q : Int32 → Mm → Prop} {x0 : Nat} {x1 : Int32} {x3 : Int32} {x4 : Int32} (h0 : isX7 T x0)
    (h : ((M.1 x0 31) ≤ x4 → Q x3 M) ∧ (¬ (M.1 x0 31) ≤ x4 → vp_in x4 3 ∧ ((¬ (M.1 (x0 + 20) x4.toNatClampNeg) = x1 → ∀ v1 : Int32, v1 = x4 + 1 → WP T mX7_starts 40 [(0, .ref x0), (1, .int x1), (3, .int x3), (4, .int v1)] [] M (qi Q)) ∧ ((M.1 (x0 + 20) x4.toNatClampNeg) = x1 → vp_in x4 3 ∧ (∀ v1 : Int32, v1 = M.1 (x0 + 23) x4.toNatClampNeg → ∀ v2 : Int32, v2 = x4 + 1 → WP T mX7_starts 40 [(0, .ref x0), (1, .int x1), (3, .int v1), (4, .int v2)] [] M (qi Q)))))) :
    WP T mX7_starts 40 [(0, .ref x0), (1, .int x1), (3, .int x3), (4, .int x4)] [] M (qi Q) := by
  refine WP.iload 3 (dg tX7_starts 25 rfl) rfl ?_
  refine WP.aload_n 0 (dg tX7_starts 26 rfl) rfl rfl ?_
  refine WP.getI fX7_207 h0.1 (dg tX7_starts 27 rfl) ?_
  refine WP.icmp_ge (tgt := 78) (dg tX7_starts 28 rfl) (by decide) (fun z => ?_) (fun z => ?_)
  · replace h := h.1 z
    refine WP.iload_n 2 (dg tX7_starts 44 rfl) rfl rfl ?_
    exact WP.iret rfl (dg tX7_starts 45 rfl) ⟨_, rfl, h⟩
  · replace h := h.2 z
    refine WP.aload_n 0 (dg tX7_starts 29 rfl) rfl rfl ?_
    refine WP.getF fX7_69 h0.1 (dg tX7_starts 30 rfl) ?_
    refine WP.iload 3 (dg tX7_starts 31 rfl) rfl ?_
    obtain ⟨hb55, h⟩ := h
    refine WP.iald h0.2.2.2.2.2.2.2.2.2.2.2.2.2.2.2.2.2.2.2.2.1 hb55 (dg tX7_starts 32 rfl) ?_
    refine WP.iload_n 1 (dg tX7_starts 33 rfl) rfl rfl ?_
    refine WP.icmp_ne (tgt := 70) (dg tX7_starts 34 rfl) (by decide) (fun z => ?_) (fun z => ?_)
    · replace h := h.1 z
      refine WP.iload_n 2 (dg tX7_starts 40 rfl) rfl rfl ?_
      refine WP.istore_n (L2 := [(3, .int x3), (0, .ref x0), (1, .int x1), (4, .int x4)]) (dg tX7_starts 41 rfl) rfl (by decide) rfl ?_
      obtain ⟨v1, e_v1⟩ : ∃ y : Int32, y = x4 + 1 := ⟨_, rfl⟩
      have h := h v1 e_v1
      refine WP.iinc (v := v1) (L2 := [(4, .int v1), (3, .int x3), (0, .ref x0), (1, .int x1)]) 3 (dg tX7_starts 42 rfl) rfl (by rw [e_v1]; rfl) (by decide) rfl ?_
      refine WP.goto (tgt := 40) (dg tX7_starts 43 rfl) (by decide) ?_
      refine WP.sub [2, 3, 1, 0] rfl ?_
      exact h
    · replace h := h.2 z
      refine WP.aload_n 0 (dg tX7_starts 35 rfl) rfl rfl ?_
      refine WP.getF fX7_78 h0.1 (dg tX7_starts 36 rfl) ?_
      refine WP.iload 3 (dg tX7_starts 37 rfl) rfl ?_
      obtain ⟨hb66, h⟩ := h
      refine WP.iald h0.2.2.2.2.2.2.2.2.2.2.2.2.2.2.2.2.2.2.2.2.2.2.2.1 hb66 (dg tX7_starts 38 rfl) ?_
      refine WP.goto (tgt := 71) (dg tX7_starts 39 rfl) (by decide) ?_
      refine WP.topi (fun v1 e_v1 => ?_)
      have h := h v1 e_v1
      refine WP.istore_n (L2 := [(3, .int v1), (0, .ref x0), (1, .int x1), (4, .int x4)]) (dg tX7_starts 41 rfl) rfl (by decide) rfl ?_
      obtain ⟨v2, e_v2⟩ : ∃ y : Int32, y = x4 + 1 := ⟨_, rfl⟩
      have h := h v2 e_v2
      refine WP.iinc (v := v2) (L2 := [(4, .int v2), (3, .int v1), (0, .ref x0), (1, .int x1)]) 3 (dg tX7_starts 42 rfl) rfl (by rw [e_v2]; rfl) (by decide) rfl ?_
      refine WP.goto (tgt := 40) (dg tX7_starts 43 rfl) (by decide) ?_
      refine WP.sub [2, 3, 1, 0] rfl ?_
      exact h
theorem sg_X7_bars_0 {T : Th} {M : Mm} {Q : Int32 → Mm → Prop} {x0 : Nat} (h0 : isX7 T x0)
    (h : WPi T mX7_findStarts [.ref x0, .int (-9)] M (fun v2 M1 => (v2 = (-9) → WP T mX7_bars 16 [(0, .ref x0), (1, .int 0)] [] M1 (qi Q)) ∧ (¬ v2 = (-9) → Q (-9) M1))) :
    WP T mX7_bars 0 [(0, .ref x0)] [] M (qi Q) := by
  refine WP.aload_n 0 (dg tX7_bars 0 rfl) rfl rfl ?_
  refine WP.bipush (v := (-9)) (dg tX7_bars 1 rfl) (by decide) ?_
  refine WP.callVi (As := [.int (-9)]) (st := []) vX7_216 h0.1 rfl rfl ⟨Nat.le_of_ble_eq_true rfl, Nat.le_of_ble_eq_true rfl⟩ (Nat.le_of_ble_eq_true rfl) rfl (dg tX7_bars 2 rfl) h (fun v2 M1 h => ?_)
  refine WP.bipush (v := (-9)) (dg tX7_bars 3 rfl) (by decide) ?_
  refine WP.icmp_eq (tgt := 14) (dg tX7_bars 4 rfl) (by decide) (fun z => ?_) (fun z => ?_)
  · replace h := h.1 z
    refine WP.iconst (v := 0) (dg tX7_bars 7 rfl) (by decide) ?_
    refine WP.istore_n (L2 := [(1, .int 0), (0, .ref x0)]) (dg tX7_bars 8 rfl) rfl (by decide) rfl ?_
    refine WP.sub [1, 0] rfl ?_
    exact h
  · replace h := h.2 z
    refine WP.bipush (v := (-9)) (dg tX7_bars 5 rfl) (by decide) ?_
    exact WP.iret rfl (dg tX7_bars 6 rfl) ⟨_, rfl, h⟩
theorem sg_X7_bars_16 {T : Th} {M : Mm} {Q : Int32 → Mm → Prop} {x0 : Nat} {x1 : Int32} (h0 : isX7 T x0)
    (h : ((M.1 x0 31) ≤ x1 → Q (-9) M) ∧ (¬ (M.1 x0 31) ≤ x1 → WPi T mX7_findStarts [.ref x0, .int x1] M (fun v2 M1 => (v2 = (-9) → ∀ v3 : Int32, v3 = x1 + 1 → WP T mX7_bars 16 [(0, .ref x0), (1, .int v3)] [] M1 (qi Q)) ∧ (¬ v2 = (-9) → vp_in x1 3 ∧ (Q (M1.1 (x0 + 20) x1.toNatClampNeg) M1))))) :
    WP T mX7_bars 16 [(0, .ref x0), (1, .int x1)] [] M (qi Q) := by
  refine WP.iload_n 1 (dg tX7_bars 9 rfl) rfl rfl ?_
  refine WP.aload_n 0 (dg tX7_bars 10 rfl) rfl rfl ?_
  refine WP.getI fX7_207 h0.1 (dg tX7_bars 11 rfl) ?_
  refine WP.icmp_ge (tgt := 47) (dg tX7_bars 12 rfl) (by decide) (fun z => ?_) (fun z => ?_)
  · replace h := h.1 z
    refine WP.bipush (v := (-9)) (dg tX7_bars 25 rfl) (by decide) ?_
    exact WP.iret rfl (dg tX7_bars 26 rfl) ⟨_, rfl, h⟩
  · replace h := h.2 z
    refine WP.aload_n 0 (dg tX7_bars 13 rfl) rfl rfl ?_
    refine WP.iload_n 1 (dg tX7_bars 14 rfl) rfl rfl ?_
    refine WP.callVi (As := [.int x1]) (st := []) vX7_216 h0.1 rfl rfl ⟨Nat.le_of_ble_eq_true rfl, Nat.le_of_ble_eq_true rfl⟩ (Nat.le_of_ble_eq_true rfl) rfl (dg tX7_bars 15 rfl) h (fun v2 M1 h => ?_)
    refine WP.bipush (v := (-9)) (dg tX7_bars 16 rfl) (by decide) ?_
    refine WP.icmp_eq (tgt := 41) (dg tX7_bars 17 rfl) (by decide) (fun z => ?_) (fun z => ?_)
    · replace h := h.1 z
      obtain ⟨v3, e_v3⟩ : ∃ y : Int32, y = x1 + 1 := ⟨_, rfl⟩
      have h := h v3 e_v3
      refine WP.iinc (v := v3) (L2 := [(1, .int v3), (0, .ref x0)]) 1 (dg tX7_bars 23 rfl) rfl (by rw [e_v3]; rfl) (by decide) rfl ?_
      refine WP.goto (tgt := 16) (dg tX7_bars 24 rfl) (by decide) ?_
      refine WP.sub [1, 0] rfl ?_
      exact h
    · replace h := h.2 z
      refine WP.aload_n 0 (dg tX7_bars 18 rfl) rfl rfl ?_
      refine WP.getF fX7_69 h0.1 (dg tX7_bars 19 rfl) ?_
      refine WP.iload_n 1 (dg tX7_bars 20 rfl) rfl rfl ?_
      obtain ⟨hb39, h⟩ := h
      refine WP.iald h0.2.2.2.2.2.2.2.2.2.2.2.2.2.2.2.2.2.2.2.2.1 hb39 (dg tX7_bars 21 rfl) ?_
      exact WP.iret rfl (dg tX7_bars 22 rfl) ⟨_, rfl, h⟩
theorem sg_X7_pieces_0 {T : Th} {M : Mm} {Q : Int32 → Mm → Prop} {x0 : Nat} {x1 : Int32} {x2 : Int32} (h0 : isX7 T x0)
    (h : WPi T mX7_in [.int x1, .int 0, .int 2] M (fun v2 M1 => (v2 = 0 → Q (-1) M1) ∧ (¬ v2 = 0 → WPi T mX7_in [.int x2, .int 0, .int 60] M1 (fun v4 M3 => (¬ v4 = 0 → WPv T mX7_toThen [.ref x0] M3 (fun M5 => WP T mX7_pieces 30 [(0, .ref x0), (1, .int x1), (2, .int x2), (3, .int 0), (4, .int 0)] [] M5 (qi Q))) ∧ (v4 = 0 → Q (-1) M3))))) :
    WP T mX7_pieces 0 [(0, .ref x0), (1, .int x1), (2, .int x2)] [] M (qi Q) := by
  refine WP.iload_n 1 (dg tX7_pieces 0 rfl) rfl rfl ?_
  refine WP.iconst (v := 0) (dg tX7_pieces 1 rfl) (by decide) ?_
  refine WP.iconst (v := 2) (dg tX7_pieces 2 rfl) (by decide) ?_
  refine WP.callSi (As := [.int x1, .int 0, .int 2]) (st := []) vX7_88 rfl ⟨Nat.le_of_ble_eq_true rfl, Nat.le_of_ble_eq_true rfl⟩ (Nat.le_of_ble_eq_true rfl) rfl (dg tX7_pieces 3 rfl) h (fun v2 M1 h => ?_)
  refine WP.if_eq (tgt := 19) (dg tX7_pieces 4 rfl) (by decide) (fun z => ?_) (fun z => ?_)
  · replace h := h.1 z
    refine WP.iconst (v := (-1)) (dg tX7_pieces 10 rfl) (by decide) ?_
    exact WP.iret rfl (dg tX7_pieces 11 rfl) ⟨_, rfl, h⟩
  · replace h := h.2 z
    refine WP.iload_n 2 (dg tX7_pieces 5 rfl) rfl rfl ?_
    refine WP.iconst (v := 0) (dg tX7_pieces 6 rfl) (by decide) ?_
    refine WP.bipush (v := 60) (dg tX7_pieces 7 rfl) (by decide) ?_
    refine WP.callSi (As := [.int x2, .int 0, .int 60]) (st := []) vX7_88 rfl ⟨Nat.le_of_ble_eq_true rfl, Nat.le_of_ble_eq_true rfl⟩ (Nat.le_of_ble_eq_true rfl) rfl (dg tX7_pieces 8 rfl) h (fun v4 M3 h => ?_)
    refine WP.if_ne (tgt := 21) (dg tX7_pieces 9 rfl) (by decide) (fun z => ?_) (fun z => ?_)
    · replace h := h.1 z
      refine WP.aload_n 0 (dg tX7_pieces 12 rfl) rfl rfl ?_
      refine WP.callVv (As := []) (st := []) vX7_177 h0.1 rfl rfl ⟨Nat.le_of_ble_eq_true rfl, Nat.le_of_ble_eq_true rfl⟩ (Nat.le_of_ble_eq_true rfl) rfl (dg tX7_pieces 13 rfl) h (fun M5 h => ?_)
      refine WP.iconst (v := 0) (dg tX7_pieces 14 rfl) (by decide) ?_
      refine WP.istore_n (L2 := [(3, .int 0), (0, .ref x0), (1, .int x1), (2, .int x2)]) (dg tX7_pieces 15 rfl) rfl (by decide) rfl ?_
      refine WP.iconst (v := 0) (dg tX7_pieces 16 rfl) (by decide) ?_
      refine WP.istore (L2 := [(4, .int 0), (3, .int 0), (0, .ref x0), (1, .int x1), (2, .int x2)]) (dg tX7_pieces 17 rfl) (by decide) rfl ?_
      refine WP.sub [2, 3, 4, 1, 0] rfl ?_
      exact h
    · replace h := h.2 z
      refine WP.iconst (v := (-1)) (dg tX7_pieces 10 rfl) (by decide) ?_
      exact WP.iret rfl (dg tX7_pieces 11 rfl) ⟨_, rfl, h⟩
theorem sg_X7_pieces_30 {T : Th} {M : Mm} {Q : Int32 → Mm → Prop} {x0 : Nat} {x1 : Int32} {x2 : Int32} {x3 : Int32} {x4 : Int32} (h0 : isX7 T x0)
    (h : (x2 < x4 → Q x3 M) ∧ (¬ x2 < x4 → WP T mX7_pieces 47 [(0, .ref x0), (1, .int x1), (2, .int x2), (3, .int x3), (4, .int x4), (5, .int (-9)), (6, .int (-9)), (7, .int 0)] [] M (qi Q))) :
    WP T mX7_pieces 30 [(0, .ref x0), (1, .int x1), (2, .int x2), (3, .int x3), (4, .int x4)] [] M (qi Q) := by
  refine WP.iload 4 (dg tX7_pieces 18 rfl) rfl ?_
  refine WP.iload_n 2 (dg tX7_pieces 19 rfl) rfl rfl ?_
  refine WP.icmp_gt (tgt := 195) (dg tX7_pieces 20 rfl) (by decide) (fun z => ?_) (fun z => ?_)
  · replace h := h.1 z
    refine WP.iload_n 3 (dg tX7_pieces 105 rfl) rfl rfl ?_
    exact WP.iret rfl (dg tX7_pieces 106 rfl) ⟨_, rfl, h⟩
  · replace h := h.2 z
    refine WP.bipush (v := (-9)) (dg tX7_pieces 21 rfl) (by decide) ?_
    refine WP.istore (L2 := [(5, .int (-9)), (0, .ref x0), (1, .int x1), (2, .int x2), (3, .int x3), (4, .int x4)]) (dg tX7_pieces 22 rfl) (by decide) rfl ?_
    refine WP.bipush (v := (-9)) (dg tX7_pieces 23 rfl) (by decide) ?_
    refine WP.istore (L2 := [(6, .int (-9)), (5, .int (-9)), (0, .ref x0), (1, .int x1), (2, .int x2), (3, .int x3), (4, .int x4)]) (dg tX7_pieces 24 rfl) (by decide) rfl ?_
    refine WP.iconst (v := 0) (dg tX7_pieces 25 rfl) (by decide) ?_
    refine WP.istore (L2 := [(7, .int 0), (6, .int (-9)), (5, .int (-9)), (0, .ref x0), (1, .int x1), (2, .int x2), (3, .int x3), (4, .int x4)]) (dg tX7_pieces 26 rfl) (by decide) rfl ?_
    refine WP.sub [3, 4, 5, 6, 7, 2, 1, 0] rfl ?_
    exact h
theorem sg_X7_pieces_47 {T : Th} {M : Mm} {Q : Int32 → Mm → Prop} {x0 : Nat} {x1 : Int32} {x2 : Int32} {x3 : Int32} {x4 : Int32} {x5 : Int32} {x6 : Int32} {x7 : Int32} (h0 : isX7 T x0)
    (h : ((M.1 (x0 + 7) 0) ≤ x7 → (¬ x5 = (-9) → WP T mX7_pieces 170 [(0, .ref x0), (1, .int x1), (2, .int x2), (3, .int x3), (4, .int x4)] [.int ((x5 - x6) + 1)] M (qi Q)) ∧ (x5 = (-9) → WP T mX7_pieces 170 [(0, .ref x0), (1, .int x1), (2, .int x2), (3, .int x3), (4, .int x4)] [.int 0] M (qi Q))) ∧ (¬ (M.1 (x0 + 7) 0) ≤ x7 → vp_in (26 + x7) 31 ∧ ((¬ (M.1 (x0 + 18) (26 + x7).toNatClampNeg) = x1 → ∀ v1 : Int32, v1 = x7 + 1 → WP T mX7_pieces 47 [(0, .ref x0), (1, .int x1), (2, .int x2), (3, .int x3), (4, .int x4), (5, .int x5), (6, .int x6), (7, .int v1)] [] M (qi Q)) ∧ ((M.1 (x0 + 18) (26 + x7).toNatClampNeg) = x1 → (x5 = (-9) → vp_in (1 + x7) 31 ∧ (WP T mX7_pieces 107 [(0, .ref x0), (1, .int x1), (2, .int x2), (3, .int x3), (4, .int x4), (6, .int x6), (7, .int x7)] [.int (M.1 (x0 + 18) (1 + x7).toNatClampNeg)] M (qi Q))) ∧ (¬ x5 = (-9) → vp_in (1 + x7) 31 ∧ (((M.1 (x0 + 18) (1 + x7).toNatClampNeg) ≤ x5 → WP T mX7_pieces 107 [(0, .ref x0), (1, .int x1), (2, .int x2), (3, .int x3), (4, .int x4), (6, .int x6), (7, .int x7)] [.int x5] M (qi Q)) ∧ (¬ (M.1 (x0 + 18) (1 + x7).toNatClampNeg) ≤ x5 → vp_in (1 + x7) 31 ∧ (WP T mX7_pieces 107 [(0, .ref x0), (1, .int x1), (2, .int x2), (3, .int x3), (4, .int x4), (6, .int x6), (7, .int x7)] [.int (M.1 (x0 + 18) (1 + x7).toNatClampNeg)] M (qi Q))))))))) :
    WP T mX7_pieces 47 [(0, .ref x0), (1, .int x1), (2, .int x2), (3, .int x3), (4, .int x4), (5, .int x5), (6, .int x6), (7, .int x7)] [] M (qi Q) := by
  refine WP.iload 7 (dg tX7_pieces 27 rfl) rfl ?_
  refine WP.aload_n 0 (dg tX7_pieces 28 rfl) rfl rfl ?_
  refine WP.getF fX7_29 h0.1 (dg tX7_pieces 29 rfl) ?_
  refine WP.iconst (v := 0) (dg tX7_pieces 30 rfl) (by decide) ?_
  refine WP.ialdc (k := 0) h0.2.2.2.2.2.2.2.1 (by decide) (by decide) (dg tX7_pieces 31 rfl) ?_
  refine WP.icmp_ge (tgt := 152) (dg tX7_pieces 32 rfl) (by decide) (fun z => ?_) (fun z => ?_)
  · replace h := h.1 z
    refine WP.iload 5 (dg tX7_pieces 83 rfl) rfl ?_
    refine WP.bipush (v := (-9)) (dg tX7_pieces 84 rfl) (by decide) ?_
    refine WP.icmp_ne (tgt := 163) (dg tX7_pieces 85 rfl) (by decide) (fun z => ?_) (fun z => ?_)
    · replace h := h.1 z
      refine WP.iload 5 (dg tX7_pieces 88 rfl) rfl ?_
      refine WP.iload 6 (dg tX7_pieces 89 rfl) rfl ?_
      refine WP.isub (dg tX7_pieces 90 rfl) ?_
      refine WP.iconst (v := 1) (dg tX7_pieces 91 rfl) (by decide) ?_
      refine WP.iadd (dg tX7_pieces 92 rfl) ?_
      refine WP.sub [0, 1, 2, 3, 4] rfl ?_
      exact h
    · replace h := h.2 z
      refine WP.iconst (v := 0) (dg tX7_pieces 86 rfl) (by decide) ?_
      refine WP.goto (tgt := 170) (dg tX7_pieces 87 rfl) (by decide) ?_
      refine WP.sub [0, 1, 2, 3, 4] rfl ?_
      exact h
  · replace h := h.2 z
    refine WP.aload_n 0 (dg tX7_pieces 33 rfl) rfl rfl ?_
    refine WP.getF fX7_62 h0.1 (dg tX7_pieces 34 rfl) ?_
    refine WP.bipush (v := 26) (dg tX7_pieces 35 rfl) (by decide) ?_
    refine WP.iload 7 (dg tX7_pieces 36 rfl) rfl ?_
    refine WP.iadd (dg tX7_pieces 37 rfl) ?_
    obtain ⟨hb67, h⟩ := h
    refine WP.iald h0.2.2.2.2.2.2.2.2.2.2.2.2.2.2.2.2.2.2.1 hb67 (dg tX7_pieces 38 rfl) ?_
    refine WP.iload_n 1 (dg tX7_pieces 39 rfl) rfl rfl ?_
    refine WP.icmp_ne (tgt := 146) (dg tX7_pieces 40 rfl) (by decide) (fun z => ?_) (fun z => ?_)
    · replace h := h.1 z
      obtain ⟨v1, e_v1⟩ : ∃ y : Int32, y = x7 + 1 := ⟨_, rfl⟩
      have h := h v1 e_v1
      refine WP.iinc (v := v1) (L2 := [(7, .int v1), (0, .ref x0), (1, .int x1), (2, .int x2), (3, .int x3), (4, .int x4), (5, .int x5), (6, .int x6)]) 7 (dg tX7_pieces 81 rfl) rfl (by rw [e_v1]; rfl) (by decide) rfl ?_
      refine WP.goto (tgt := 47) (dg tX7_pieces 82 rfl) (by decide) ?_
      refine WP.sub [1, 2, 3, 4, 5, 6, 7, 0] rfl ?_
      exact h
    · replace h := h.2 z
      refine WP.iload 5 (dg tX7_pieces 41 rfl) rfl ?_
      refine WP.bipush (v := (-9)) (dg tX7_pieces 42 rfl) (by decide) ?_
      refine WP.icmp_eq (tgt := 93) (dg tX7_pieces 43 rfl) (by decide) (fun z => ?_) (fun z => ?_)
      · replace h := h.1 z
        refine WP.aload_n 0 (dg tX7_pieces 52 rfl) rfl rfl ?_
        refine WP.getF fX7_62 h0.1 (dg tX7_pieces 53 rfl) ?_
        refine WP.iconst (v := 1) (dg tX7_pieces 54 rfl) (by decide) ?_
        refine WP.iload 7 (dg tX7_pieces 55 rfl) rfl ?_
        refine WP.iadd (dg tX7_pieces 56 rfl) ?_
        obtain ⟨hb101, h⟩ := h
        refine WP.iald h0.2.2.2.2.2.2.2.2.2.2.2.2.2.2.2.2.2.2.1 hb101 (dg tX7_pieces 57 rfl) ?_
        refine WP.goto (tgt := 107) (dg tX7_pieces 58 rfl) (by decide) ?_
        refine WP.sub [0, 1, 2, 3, 4, 6, 7] rfl ?_
        exact h
      · replace h := h.2 z
        refine WP.aload_n 0 (dg tX7_pieces 44 rfl) rfl rfl ?_
        refine WP.getF fX7_62 h0.1 (dg tX7_pieces 45 rfl) ?_
        refine WP.iconst (v := 1) (dg tX7_pieces 46 rfl) (by decide) ?_
        refine WP.iload 7 (dg tX7_pieces 47 rfl) rfl ?_
        refine WP.iadd (dg tX7_pieces 48 rfl) ?_
        obtain ⟨hb87, h⟩ := h
        refine WP.iald h0.2.2.2.2.2.2.2.2.2.2.2.2.2.2.2.2.2.2.1 hb87 (dg tX7_pieces 49 rfl) ?_
        refine WP.iload 5 (dg tX7_pieces 50 rfl) rfl ?_
        refine WP.icmp_le (tgt := 105) (dg tX7_pieces 51 rfl) (by decide) (fun z => ?_) (fun z => ?_)
        · replace h := h.1 z
          refine WP.iload 5 (dg tX7_pieces 59 rfl) rfl ?_
          refine WP.sub [0, 1, 2, 3, 4, 6, 7] rfl ?_
          exact h
        · replace h := h.2 z
          refine WP.aload_n 0 (dg tX7_pieces 52 rfl) rfl rfl ?_
          refine WP.getF fX7_62 h0.1 (dg tX7_pieces 53 rfl) ?_
          refine WP.iconst (v := 1) (dg tX7_pieces 54 rfl) (by decide) ?_
          refine WP.iload 7 (dg tX7_pieces 55 rfl) rfl ?_
          refine WP.iadd (dg tX7_pieces 56 rfl) ?_
          obtain ⟨hb101, h⟩ := h
          refine WP.iald h0.2.2.2.2.2.2.2.2.2.2.2.2.2.2.2.2.2.2.1 hb101 (dg tX7_pieces 57 rfl) ?_
          refine WP.goto (tgt := 107) (dg tX7_pieces 58 rfl) (by decide) ?_
          refine WP.sub [0, 1, 2, 3, 4, 6, 7] rfl ?_
          exact h
theorem sg_X7_pieces_170 {T : Th} {M : Mm} {Q : Int32 → Mm → Prop} {x0 : Nat} {x1 : Int32} {x2 : Int32} {x3 : Int32} {x4 : Int32} {s0 : Int32} (h0 : isX7 T x0)
    (h : (s0 ≤ x3 → WPv T mX7_pass [.ref x0] M (fun M1 => ∀ v2 : Int32, v2 = x4 + 1 → WP T mX7_pieces 30 [(0, .ref x0), (1, .int x1), (2, .int x2), (3, .int x3), (4, .int v2)] [] M1 (qi Q))) ∧ (¬ s0 ≤ x3 → WPv T mX7_pass [.ref x0] M (fun M1 => ∀ v2 : Int32, v2 = x4 + 1 → WP T mX7_pieces 30 [(0, .ref x0), (1, .int x1), (2, .int x2), (3, .int s0), (4, .int v2)] [] M1 (qi Q)))) :
    WP T mX7_pieces 170 [(0, .ref x0), (1, .int x1), (2, .int x2), (3, .int x3), (4, .int x4)] [.int s0] M (qi Q) := by
  refine WP.istore (L2 := [(7, .int s0), (0, .ref x0), (1, .int x1), (2, .int x2), (3, .int x3), (4, .int x4)]) (dg tX7_pieces 93 rfl) (by decide) rfl ?_
  refine WP.iload 0 (dg tX7_pieces 94 rfl) rfl ?_
  refine WP.iload_n 4 (dg tX7_pieces 95 rfl) rfl rfl ?_
  refine WP.icmp_le (tgt := 183) (dg tX7_pieces 96 rfl) (by decide) (fun z => ?_) (fun z => ?_)
  · replace h := h.1 z
    refine WP.iload_n 4 (dg tX7_pieces 99 rfl) rfl rfl ?_
    refine WP.istore_n (L2 := [(3, .int x3), (7, .int s0), (0, .ref x0), (1, .int x1), (2, .int x2), (4, .int x4)]) (dg tX7_pieces 100 rfl) rfl (by decide) rfl ?_
    refine WP.aload_n 2 (dg tX7_pieces 101 rfl) rfl rfl ?_
    refine WP.callVv (As := []) (st := []) vX7_195 h0.1 rfl rfl ⟨Nat.le_of_ble_eq_true rfl, Nat.le_of_ble_eq_true rfl⟩ (Nat.le_of_ble_eq_true rfl) rfl (dg tX7_pieces 102 rfl) h (fun M1 h => ?_)
    obtain ⟨v2, e_v2⟩ : ∃ y : Int32, y = x4 + 1 := ⟨_, rfl⟩
    have h := h v2 e_v2
    refine WP.iinc (v := v2) (L2 := [(4, .int v2), (3, .int x3), (7, .int s0), (0, .ref x0), (1, .int x1), (2, .int x2)]) 5 (dg tX7_pieces 103 rfl) rfl (by rw [e_v2]; rfl) (by decide) rfl ?_
    refine WP.goto (tgt := 30) (dg tX7_pieces 104 rfl) (by decide) ?_
    refine WP.sub [3, 4, 5, 1, 0] rfl ?_
    exact h
  · replace h := h.2 z
    refine WP.iload 0 (dg tX7_pieces 97 rfl) rfl ?_
    refine WP.goto (tgt := 184) (dg tX7_pieces 98 rfl) (by decide) ?_
    refine WP.istore_n (L2 := [(3, .int s0), (7, .int s0), (0, .ref x0), (1, .int x1), (2, .int x2), (4, .int x4)]) (dg tX7_pieces 100 rfl) rfl (by decide) rfl ?_
    refine WP.aload_n 2 (dg tX7_pieces 101 rfl) rfl rfl ?_
    refine WP.callVv (As := []) (st := []) vX7_195 h0.1 rfl rfl ⟨Nat.le_of_ble_eq_true rfl, Nat.le_of_ble_eq_true rfl⟩ (Nat.le_of_ble_eq_true rfl) rfl (dg tX7_pieces 102 rfl) h (fun M1 h => ?_)
    obtain ⟨v2, e_v2⟩ : ∃ y : Int32, y = x4 + 1 := ⟨_, rfl⟩
    have h := h v2 e_v2
    refine WP.iinc (v := v2) (L2 := [(4, .int v2), (3, .int s0), (7, .int s0), (0, .ref x0), (1, .int x1), (2, .int x2)]) 5 (dg tX7_pieces 103 rfl) rfl (by rw [e_v2]; rfl) (by decide) rfl ?_
    refine WP.goto (tgt := 30) (dg tX7_pieces 104 rfl) (by decide) ?_
    refine WP.sub [3, 4, 5, 1, 0] rfl ?_
    exact h
theorem sg_X7_pieces_107 {T : Th} {M : Mm} {Q : Int32 → Mm → Prop} {x0 : Nat} {x1 : Int32} {x2 : Int32} {x3 : Int32} {x4 : Int32} {x6 : Int32} {x7 : Int32} {s0 : Int32} (h0 : isX7 T x0)
    (h : (x6 = (-9) → vp_in (1 + x7) 31 ∧ (∀ v1 : Int32, v1 = M.1 (x0 + 18) (1 + x7).toNatClampNeg → ∀ v2 : Int32, v2 = x7 + 1 → WP T mX7_pieces 47 [(0, .ref x0), (1, .int x1), (2, .int x2), (3, .int x3), (4, .int x4), (5, .int s0), (6, .int v1), (7, .int v2)] [] M (qi Q))) ∧ (¬ x6 = (-9) → vp_in (1 + x7) 31 ∧ ((x6 ≤ (M.1 (x0 + 18) (1 + x7).toNatClampNeg) → ∀ v1 : Int32, v1 = x7 + 1 → WP T mX7_pieces 47 [(0, .ref x0), (1, .int x1), (2, .int x2), (3, .int x3), (4, .int x4), (5, .int s0), (6, .int x6), (7, .int v1)] [] M (qi Q)) ∧ (¬ x6 ≤ (M.1 (x0 + 18) (1 + x7).toNatClampNeg) → vp_in (1 + x7) 31 ∧ (∀ v1 : Int32, v1 = M.1 (x0 + 18) (1 + x7).toNatClampNeg → ∀ v2 : Int32, v2 = x7 + 1 → WP T mX7_pieces 47 [(0, .ref x0), (1, .int x1), (2, .int x2), (3, .int x3), (4, .int x4), (5, .int s0), (6, .int v1), (7, .int v2)] [] M (qi Q)))))) :
    WP T mX7_pieces 107 [(0, .ref x0), (1, .int x1), (2, .int x2), (3, .int x3), (4, .int x4), (6, .int x6), (7, .int x7)] [.int s0] M (qi Q) := by
  refine WP.istore (L2 := [(5, .int s0), (0, .ref x0), (1, .int x1), (2, .int x2), (3, .int x3), (4, .int x4), (6, .int x6), (7, .int x7)]) (dg tX7_pieces 60 rfl) (by decide) rfl ?_
  refine WP.iload 6 (dg tX7_pieces 61 rfl) rfl ?_
  refine WP.bipush (v := (-9)) (dg tX7_pieces 62 rfl) (by decide) ?_
  refine WP.icmp_eq (tgt := 130) (dg tX7_pieces 63 rfl) (by decide) (fun z => ?_) (fun z => ?_)
  · replace h := h.1 z
    refine WP.aload_n 1 (dg tX7_pieces 72 rfl) rfl rfl ?_
    refine WP.getF fX7_62 h0.1 (dg tX7_pieces 73 rfl) ?_
    refine WP.iconst (v := 1) (dg tX7_pieces 74 rfl) (by decide) ?_
    refine WP.iload 7 (dg tX7_pieces 75 rfl) rfl ?_
    refine WP.iadd (dg tX7_pieces 76 rfl) ?_
    obtain ⟨hb138, h⟩ := h
    refine WP.iald h0.2.2.2.2.2.2.2.2.2.2.2.2.2.2.2.2.2.2.1 hb138 (dg tX7_pieces 77 rfl) ?_
    refine WP.goto (tgt := 144) (dg tX7_pieces 78 rfl) (by decide) ?_
    refine WP.topi (fun v1 e_v1 => ?_)
    have h := h v1 e_v1
    refine WP.istore (L2 := [(6, .int v1), (5, .int s0), (0, .ref x0), (1, .int x1), (2, .int x2), (3, .int x3), (4, .int x4), (7, .int x7)]) (dg tX7_pieces 80 rfl) (by decide) rfl ?_
    obtain ⟨v2, e_v2⟩ : ∃ y : Int32, y = x7 + 1 := ⟨_, rfl⟩
    have h := h v2 e_v2
    refine WP.iinc (v := v2) (L2 := [(7, .int v2), (6, .int v1), (5, .int s0), (0, .ref x0), (1, .int x1), (2, .int x2), (3, .int x3), (4, .int x4)]) 7 (dg tX7_pieces 81 rfl) rfl (by rw [e_v2]; rfl) (by decide) rfl ?_
    refine WP.goto (tgt := 47) (dg tX7_pieces 82 rfl) (by decide) ?_
    refine WP.sub [3, 4, 5, 6, 7, 2, 1, 0] rfl ?_
    exact h
  · replace h := h.2 z
    refine WP.aload_n 1 (dg tX7_pieces 64 rfl) rfl rfl ?_
    refine WP.getF fX7_62 h0.1 (dg tX7_pieces 65 rfl) ?_
    refine WP.iconst (v := 1) (dg tX7_pieces 66 rfl) (by decide) ?_
    refine WP.iload 7 (dg tX7_pieces 67 rfl) rfl ?_
    refine WP.iadd (dg tX7_pieces 68 rfl) ?_
    obtain ⟨hb124, h⟩ := h
    refine WP.iald h0.2.2.2.2.2.2.2.2.2.2.2.2.2.2.2.2.2.2.1 hb124 (dg tX7_pieces 69 rfl) ?_
    refine WP.iload 6 (dg tX7_pieces 70 rfl) rfl ?_
    refine WP.icmp_ge (tgt := 142) (dg tX7_pieces 71 rfl) (by decide) (fun z => ?_) (fun z => ?_)
    · replace h := h.1 z
      refine WP.iload 6 (dg tX7_pieces 79 rfl) rfl ?_
      refine WP.istore (L2 := [(6, .int x6), (5, .int s0), (0, .ref x0), (1, .int x1), (2, .int x2), (3, .int x3), (4, .int x4), (7, .int x7)]) (dg tX7_pieces 80 rfl) (by decide) rfl ?_
      obtain ⟨v1, e_v1⟩ : ∃ y : Int32, y = x7 + 1 := ⟨_, rfl⟩
      have h := h v1 e_v1
      refine WP.iinc (v := v1) (L2 := [(7, .int v1), (6, .int x6), (5, .int s0), (0, .ref x0), (1, .int x1), (2, .int x2), (3, .int x3), (4, .int x4)]) 7 (dg tX7_pieces 81 rfl) rfl (by rw [e_v1]; rfl) (by decide) rfl ?_
      refine WP.goto (tgt := 47) (dg tX7_pieces 82 rfl) (by decide) ?_
      refine WP.sub [3, 4, 5, 6, 7, 2, 1, 0] rfl ?_
      exact h
    · replace h := h.2 z
      refine WP.aload_n 1 (dg tX7_pieces 72 rfl) rfl rfl ?_
      refine WP.getF fX7_62 h0.1 (dg tX7_pieces 73 rfl) ?_
      refine WP.iconst (v := 1) (dg tX7_pieces 74 rfl) (by decide) ?_
      refine WP.iload 7 (dg tX7_pieces 75 rfl) rfl ?_
      refine WP.iadd (dg tX7_pieces 76 rfl) ?_
      obtain ⟨hb138, h⟩ := h
      refine WP.iald h0.2.2.2.2.2.2.2.2.2.2.2.2.2.2.2.2.2.2.1 hb138 (dg tX7_pieces 77 rfl) ?_
      refine WP.goto (tgt := 144) (dg tX7_pieces 78 rfl) (by decide) ?_
      refine WP.topi (fun v1 e_v1 => ?_)
      have h := h v1 e_v1
      refine WP.istore (L2 := [(6, .int v1), (5, .int s0), (0, .ref x0), (1, .int x1), (2, .int x2), (3, .int x3), (4, .int x4), (7, .int x7)]) (dg tX7_pieces 80 rfl) (by decide) rfl ?_
      obtain ⟨v2, e_v2⟩ : ∃ y : Int32, y = x7 + 1 := ⟨_, rfl⟩
      have h := h v2 e_v2
      refine WP.iinc (v := v2) (L2 := [(7, .int v2), (6, .int v1), (5, .int s0), (0, .ref x0), (1, .int x1), (2, .int x2), (3, .int x3), (4, .int x4)]) 7 (dg tX7_pieces 81 rfl) rfl (by rw [e_v2]; rfl) (by decide) rfl ?_
      refine WP.goto (tgt := 47) (dg tX7_pieces 82 rfl) (by decide) ?_
      refine WP.sub [3, 4, 5, 6, 7, 2, 1, 0] rfl ?_
      exact h
theorem sg_X7_met_0 {T : Th} {M : Mm} {Q : Int32 → Mm → Prop} {x0 : Nat} {x1 : Int32} {x2 : Int32} (h0 : isX7 T x0)
    (h : WPi T mX7_in [.int x1, .int 0, .int ((M.1 (x0 + 2) 0) - 1)] M (fun v2 M1 => (v2 = 0 → Q (-1) M1) ∧ (¬ v2 = 0 → WPi T mX7_in [.int x2, .int 0, .int 99] M1 (fun v4 M3 => (¬ v4 = 0 → WPv T mX7_beginThen [.ref x0] M3 (fun M5 => WPv T mX7_passMany [.ref x0, .int x2] M5 (fun M6 => WP T mX7_met 42 [(0, .ref x0), (1, .int x1), (3, .int 0), (4, .int 0)] [] M6 (qi Q)))) ∧ (v4 = 0 → Q (-1) M3))))) :
    WP T mX7_met 0 [(0, .ref x0), (1, .int x1), (2, .int x2)] [] M (qi Q) := by
  refine WP.iload_n 1 (dg tX7_met 0 rfl) rfl rfl ?_
  refine WP.iconst (v := 0) (dg tX7_met 1 rfl) (by decide) ?_
  refine WP.aload_n 0 (dg tX7_met 2 rfl) rfl rfl ?_
  refine WP.getF fX7_13 h0.1 (dg tX7_met 3 rfl) ?_
  refine WP.iconst (v := 0) (dg tX7_met 4 rfl) (by decide) ?_
  refine WP.ialdc (k := 0) h0.2.2.1 (by decide) (by decide) (dg tX7_met 5 rfl) ?_
  refine WP.iconst (v := 1) (dg tX7_met 6 rfl) (by decide) ?_
  refine WP.isub (dg tX7_met 7 rfl) ?_
  refine WP.callSi (As := [.int x1, .int 0, .int ((M.1 (x0 + 2) 0) - 1)]) (st := []) vX7_88 rfl ⟨Nat.le_of_ble_eq_true rfl, Nat.le_of_ble_eq_true rfl⟩ (Nat.le_of_ble_eq_true rfl) rfl (dg tX7_met 8 rfl) h (fun v2 M1 h => ?_)
  refine WP.if_eq (tgt := 26) (dg tX7_met 9 rfl) (by decide) (fun z => ?_) (fun z => ?_)
  · replace h := h.1 z
    refine WP.iconst (v := (-1)) (dg tX7_met 15 rfl) (by decide) ?_
    exact WP.iret rfl (dg tX7_met 16 rfl) ⟨_, rfl, h⟩
  · replace h := h.2 z
    refine WP.iload_n 2 (dg tX7_met 10 rfl) rfl rfl ?_
    refine WP.iconst (v := 0) (dg tX7_met 11 rfl) (by decide) ?_
    refine WP.bipush (v := 99) (dg tX7_met 12 rfl) (by decide) ?_
    refine WP.callSi (As := [.int x2, .int 0, .int 99]) (st := []) vX7_88 rfl ⟨Nat.le_of_ble_eq_true rfl, Nat.le_of_ble_eq_true rfl⟩ (Nat.le_of_ble_eq_true rfl) rfl (dg tX7_met 13 rfl) h (fun v4 M3 h => ?_)
    refine WP.if_ne (tgt := 28) (dg tX7_met 14 rfl) (by decide) (fun z => ?_) (fun z => ?_)
    · replace h := h.1 z
      refine WP.aload_n 0 (dg tX7_met 17 rfl) rfl rfl ?_
      refine WP.callVv (As := []) (st := []) vX7_164 h0.1 rfl rfl ⟨Nat.le_of_ble_eq_true rfl, Nat.le_of_ble_eq_true rfl⟩ (Nat.le_of_ble_eq_true rfl) rfl (dg tX7_met 18 rfl) h (fun M5 h => ?_)
      refine WP.aload_n 0 (dg tX7_met 19 rfl) rfl rfl ?_
      refine WP.iload_n 2 (dg tX7_met 20 rfl) rfl rfl ?_
      refine WP.callVv (As := [.int x2]) (st := []) vX7_204 h0.1 rfl rfl ⟨Nat.le_of_ble_eq_true rfl, Nat.le_of_ble_eq_true rfl⟩ (Nat.le_of_ble_eq_true rfl) rfl (dg tX7_met 21 rfl) h (fun M6 h => ?_)
      refine WP.iconst (v := 0) (dg tX7_met 22 rfl) (by decide) ?_
      refine WP.istore_n (L2 := [(3, .int 0), (0, .ref x0), (1, .int x1), (2, .int x2)]) (dg tX7_met 23 rfl) rfl (by decide) rfl ?_
      refine WP.iconst (v := 0) (dg tX7_met 24 rfl) (by decide) ?_
      refine WP.istore (L2 := [(4, .int 0), (3, .int 0), (0, .ref x0), (1, .int x1), (2, .int x2)]) (dg tX7_met 25 rfl) (by decide) rfl ?_
      refine WP.sub [2, 3, 1, 0] rfl ?_
      exact h
    · replace h := h.2 z
      refine WP.iconst (v := (-1)) (dg tX7_met 15 rfl) (by decide) ?_
      exact WP.iret rfl (dg tX7_met 16 rfl) ⟨_, rfl, h⟩
theorem sg_X7_met_42 {T : Th} {M : Mm} {Q : Int32 → Mm → Prop} {x0 : Nat} {x1 : Int32} {x3 : Int32} {x4 : Int32} (h0 : isX7 T x0)
    (h : ((M.1 (x0 + 7) 0) ≤ x4 → Q x3 M) ∧ (¬ (M.1 (x0 + 7) 0) ≤ x4 → vp_in (21 + x4) 31 ∧ ((¬ (M.1 (x0 + 18) (21 + x4).toNatClampNeg) = 0 → ∀ v1 : Int32, v1 = x3 ||| 0 → ∀ v2 : Int32, v2 = x4 + 1 → WP T mX7_met 42 [(0, .ref x0), (1, .int x1), (3, .int v1), (4, .int v2)] [] M (qi Q)) ∧ ((M.1 (x0 + 18) (21 + x4).toNatClampNeg) = 0 → vp_in (1 + x4) 31 ∧ (¬ (M.1 (x0 + 2) 0) = 0 ∧ ((¬ ((M.1 (x0 + 18) (1 + x4).toNatClampNeg) - (M.1 (x0 + 18) (1 + x4).toNatClampNeg) / (M.1 (x0 + 2) 0) * (M.1 (x0 + 2) 0)) = x1 → ∀ v1 : Int32, v1 = x3 ||| 0 → ∀ v2 : Int32, v2 = x4 + 1 → WP T mX7_met 42 [(0, .ref x0), (1, .int x1), (3, .int v1), (4, .int v2)] [] M (qi Q)) ∧ (((M.1 (x0 + 18) (1 + x4).toNatClampNeg) - (M.1 (x0 + 18) (1 + x4).toNatClampNeg) / (M.1 (x0 + 2) 0) * (M.1 (x0 + 2) 0)) = x1 → ∀ v1 : Int32, v1 = x3 ||| (1 <<< (x4 &&& 31)) → ∀ v2 : Int32, v2 = x4 + 1 → WP T mX7_met 42 [(0, .ref x0), (1, .int x1), (3, .int v1), (4, .int v2)] [] M (qi Q)))))))) :
    WP T mX7_met 42 [(0, .ref x0), (1, .int x1), (3, .int x3), (4, .int x4)] [] M (qi Q) := by
  refine WP.iload 3 (dg tX7_met 26 rfl) rfl ?_
  refine WP.aload_n 0 (dg tX7_met 27 rfl) rfl rfl ?_
  refine WP.getF fX7_29 h0.1 (dg tX7_met 28 rfl) ?_
  refine WP.iconst (v := 0) (dg tX7_met 29 rfl) (by decide) ?_
  refine WP.ialdc (k := 0) h0.2.2.2.2.2.2.2.1 (by decide) (by decide) (dg tX7_met 30 rfl) ?_
  refine WP.icmp_ge (tgt := 103) (dg tX7_met 31 rfl) (by decide) (fun z => ?_) (fun z => ?_)
  · replace h := h.1 z
    refine WP.iload_n 2 (dg tX7_met 62 rfl) rfl rfl ?_
    exact WP.iret rfl (dg tX7_met 63 rfl) ⟨_, rfl, h⟩
  · replace h := h.2 z
    refine WP.iload_n 2 (dg tX7_met 32 rfl) rfl rfl ?_
    refine WP.aload_n 0 (dg tX7_met 33 rfl) rfl rfl ?_
    refine WP.getF fX7_62 h0.1 (dg tX7_met 34 rfl) ?_
    refine WP.bipush (v := 21) (dg tX7_met 35 rfl) (by decide) ?_
    refine WP.iload 3 (dg tX7_met 36 rfl) rfl ?_
    refine WP.iadd (dg tX7_met 37 rfl) ?_
    obtain ⟨hb63, h⟩ := h
    refine WP.iald h0.2.2.2.2.2.2.2.2.2.2.2.2.2.2.2.2.2.2.1 hb63 (dg tX7_met 38 rfl) ?_
    refine WP.if_ne (tgt := 94) (dg tX7_met 39 rfl) (by decide) (fun z => ?_) (fun z => ?_)
    · replace h := h.1 z
      refine WP.iconst (v := 0) (dg tX7_met 57 rfl) (by decide) ?_
      refine WP.ior (dg tX7_met 58 rfl) ?_
      refine WP.topi (fun v1 e_v1 => ?_)
      have h := h v1 e_v1
      refine WP.istore_n (L2 := [(3, .int v1), (0, .ref x0), (1, .int x1), (4, .int x4)]) (dg tX7_met 59 rfl) rfl (by decide) rfl ?_
      obtain ⟨v2, e_v2⟩ : ∃ y : Int32, y = x4 + 1 := ⟨_, rfl⟩
      have h := h v2 e_v2
      refine WP.iinc (v := v2) (L2 := [(4, .int v2), (3, .int v1), (0, .ref x0), (1, .int x1)]) 3 (dg tX7_met 60 rfl) rfl (by rw [e_v2]; rfl) (by decide) rfl ?_
      refine WP.goto (tgt := 42) (dg tX7_met 61 rfl) (by decide) ?_
      refine WP.sub [2, 3, 1, 0] rfl ?_
      exact h
    · replace h := h.2 z
      refine WP.aload_n 0 (dg tX7_met 40 rfl) rfl rfl ?_
      refine WP.getF fX7_62 h0.1 (dg tX7_met 41 rfl) ?_
      refine WP.iconst (v := 1) (dg tX7_met 42 rfl) (by decide) ?_
      refine WP.iload 3 (dg tX7_met 43 rfl) rfl ?_
      refine WP.iadd (dg tX7_met 44 rfl) ?_
      obtain ⟨hb75, h⟩ := h
      refine WP.iald h0.2.2.2.2.2.2.2.2.2.2.2.2.2.2.2.2.2.2.1 hb75 (dg tX7_met 45 rfl) ?_
      refine WP.aload_n 0 (dg tX7_met 46 rfl) rfl rfl ?_
      refine WP.getF fX7_13 h0.1 (dg tX7_met 47 rfl) ?_
      refine WP.iconst (v := 0) (dg tX7_met 48 rfl) (by decide) ?_
      refine WP.ialdc (k := 0) h0.2.2.1 (by decide) (by decide) (dg tX7_met 49 rfl) ?_
      obtain ⟨hz82, h⟩ := h
      refine WP.irem (dg tX7_met 50 rfl) hz82 ?_
      refine WP.iload_n 1 (dg tX7_met 51 rfl) rfl rfl ?_
      refine WP.icmp_ne (tgt := 94) (dg tX7_met 52 rfl) (by decide) (fun z => ?_) (fun z => ?_)
      · replace h := h.1 z
        refine WP.iconst (v := 0) (dg tX7_met 57 rfl) (by decide) ?_
        refine WP.ior (dg tX7_met 58 rfl) ?_
        refine WP.topi (fun v1 e_v1 => ?_)
        have h := h v1 e_v1
        refine WP.istore_n (L2 := [(3, .int v1), (0, .ref x0), (1, .int x1), (4, .int x4)]) (dg tX7_met 59 rfl) rfl (by decide) rfl ?_
        obtain ⟨v2, e_v2⟩ : ∃ y : Int32, y = x4 + 1 := ⟨_, rfl⟩
        have h := h v2 e_v2
        refine WP.iinc (v := v2) (L2 := [(4, .int v2), (3, .int v1), (0, .ref x0), (1, .int x1)]) 3 (dg tX7_met 60 rfl) rfl (by rw [e_v2]; rfl) (by decide) rfl ?_
        refine WP.goto (tgt := 42) (dg tX7_met 61 rfl) (by decide) ?_
        refine WP.sub [2, 3, 1, 0] rfl ?_
        exact h
      · replace h := h.2 z
        refine WP.iconst (v := 1) (dg tX7_met 53 rfl) (by decide) ?_
        refine WP.iload 3 (dg tX7_met 54 rfl) rfl ?_
        refine WP.ishl (dg tX7_met 55 rfl) ?_
        refine WP.goto (tgt := 95) (dg tX7_met 56 rfl) (by decide) ?_
        refine WP.ior (dg tX7_met 58 rfl) ?_
        refine WP.topi (fun v1 e_v1 => ?_)
        have h := h v1 e_v1
        refine WP.istore_n (L2 := [(3, .int v1), (0, .ref x0), (1, .int x1), (4, .int x4)]) (dg tX7_met 59 rfl) rfl (by decide) rfl ?_
        obtain ⟨v2, e_v2⟩ : ∃ y : Int32, y = x4 + 1 := ⟨_, rfl⟩
        have h := h v2 e_v2
        refine WP.iinc (v := v2) (L2 := [(4, .int v2), (3, .int v1), (0, .ref x0), (1, .int x1)]) 3 (dg tX7_met 60 rfl) rfl (by rw [e_v2]; rfl) (by decide) rfl ?_
        refine WP.goto (tgt := 42) (dg tX7_met 61 rfl) (by decide) ?_
        refine WP.sub [2, 3, 1, 0] rfl ?_
        exact h
theorem sg_X7_findOdds_0 {T : Th} {M : Mm} {Q : Mm → Prop} {x0 : Nat} {x1 : Int32} {x2 : Int32} {x3 : Int32} {x4 : Int32} (h0 : isX7 T x0)
    (h : WP T mX7_findOdds 3 [(0, .ref x0), (1, .int x1), (2, .int x2), (3, .int x3), (4, .int x4), (5, .int 0)] [] M (qv Q)) :
    WP T mX7_findOdds 0 [(0, .ref x0), (1, .int x1), (2, .int x2), (3, .int x3), (4, .int x4)] [] M (qv Q) := by
  refine WP.iconst (v := 0) (dg tX7_findOdds 0 rfl) (by decide) ?_
  refine WP.istore (L2 := [(5, .int 0), (0, .ref x0), (1, .int x1), (2, .int x2), (3, .int x3), (4, .int x4)]) (dg tX7_findOdds 1 rfl) (by decide) rfl ?_
  refine WP.sub [1, 2, 3, 4, 5, 0] rfl ?_
  exact h
theorem sg_X7_findOdds_3 {T : Th} {M : Mm} {Q : Mm → Prop} {x0 : Nat} {x1 : Int32} {x2 : Int32} {x3 : Int32} {x4 : Int32} {x5 : Int32} (h0 : isX7 T x0)
    (h : (112 ≤ x5 → vp_in (6 + x1) 1026 ∧ (vp_in (M.1 (x0 + 17) (6 + x1).toNatClampNeg) 112 ∧ (∀ M1 : Mm, M1 = sL M (x0 + 24) (M.1 (x0 + 17) (6 + x1).toNatClampNeg).toNatClampNeg 1 → ∀ M2 : Mm, M2 = sL M1 x0 38 1 → vp_in (1 + x1) 1026 ∧ (∀ v3 : Int32, v3 = M2.1 (x0 + 17) (1 + x1).toNatClampNeg → WP T mX7_findOdds 57 [(0, .ref x0), (1, .int x1), (2, .int x2), (3, .int x3), (4, .int x4), (5, .int v3), (6, .int 1)] [] M2 (qv Q))))) ∧ (¬ 112 ≤ x5 → vp_in x5 112 ∧ (∀ M1 : Mm, M1 = sL M (x0 + 24) x5.toNatClampNeg 0 → ∀ v2 : Int32, v2 = x5 + 1 → WP T mX7_findOdds 3 [(0, .ref x0), (1, .int x1), (2, .int x2), (3, .int x3), (4, .int x4), (5, .int v2)] [] M1 (qv Q)))) :
    WP T mX7_findOdds 3 [(0, .ref x0), (1, .int x1), (2, .int x2), (3, .int x3), (4, .int x4), (5, .int x5)] [] M (qv Q) := by
  refine WP.iload 5 (dg tX7_findOdds 2 rfl) rfl ?_
  refine WP.bipush (v := 112) (dg tX7_findOdds 3 rfl) (by decide) ?_
  refine WP.icmp_ge (tgt := 24) (dg tX7_findOdds 4 rfl) (by decide) (fun z => ?_) (fun z => ?_)
  · replace h := h.1 z
    refine WP.aload_n 0 (dg tX7_findOdds 12 rfl) rfl rfl ?_
    refine WP.getF fX7_81 h0.1 (dg tX7_findOdds 13 rfl) ?_
    refine WP.aload_n 0 (dg tX7_findOdds 14 rfl) rfl rfl ?_
    refine WP.getF fX7_59 h0.1 (dg tX7_findOdds 15 rfl) ?_
    refine WP.bipush (v := 6) (dg tX7_findOdds 16 rfl) (by decide) ?_
    refine WP.iload_n 1 (dg tX7_findOdds 17 rfl) rfl rfl ?_
    refine WP.iadd (dg tX7_findOdds 18 rfl) ?_
    obtain ⟨hb36, h⟩ := h
    refine WP.iald h0.2.2.2.2.2.2.2.2.2.2.2.2.2.2.2.2.2.1 hb36 (dg tX7_findOdds 19 rfl) ?_
    refine WP.lconst (v := 1) (dg tX7_findOdds 20 rfl) (by decide) ?_
    obtain ⟨hb38, h⟩ := h
    refine WP.last h0.2.2.2.2.2.2.2.2.2.2.2.2.2.2.2.2.2.2.2.2.2.2.2.2.1 hb38 (dg tX7_findOdds 21 rfl) (fun M1 e_M1 => ?_)
    have h := h M1 e_M1
    refine WP.aload_n 0 (dg tX7_findOdds 22 rfl) rfl rfl ?_
    refine WP.lconst (v := 1) (dg tX7_findOdds 23 rfl) (by decide) ?_
    refine WP.putL fX7_219 h0.1 (dg tX7_findOdds 24 rfl) (fun M2 e_M2 => ?_)
    have h := h M2 e_M2
    refine WP.aload_n 0 (dg tX7_findOdds 25 rfl) rfl rfl ?_
    refine WP.getF fX7_59 h0.1 (dg tX7_findOdds 26 rfl) ?_
    refine WP.iconst (v := 1) (dg tX7_findOdds 27 rfl) (by decide) ?_
    refine WP.iload_n 1 (dg tX7_findOdds 28 rfl) rfl rfl ?_
    refine WP.iadd (dg tX7_findOdds 29 rfl) ?_
    obtain ⟨hb51, h⟩ := h
    refine WP.iald h0.2.2.2.2.2.2.2.2.2.2.2.2.2.2.2.2.2.1 hb51 (dg tX7_findOdds 30 rfl) ?_
    refine WP.topi (fun v3 e_v3 => ?_)
    have h := h v3 e_v3
    refine WP.istore (L2 := [(5, .int v3), (0, .ref x0), (1, .int x1), (2, .int x2), (3, .int x3), (4, .int x4)]) (dg tX7_findOdds 31 rfl) (by decide) rfl ?_
    refine WP.iconst (v := 1) (dg tX7_findOdds 32 rfl) (by decide) ?_
    refine WP.istore (L2 := [(6, .int 1), (5, .int v3), (0, .ref x0), (1, .int x1), (2, .int x2), (3, .int x3), (4, .int x4)]) (dg tX7_findOdds 33 rfl) (by decide) rfl ?_
    refine WP.sub [2, 3, 4, 5, 6, 1, 0] rfl ?_
    exact h
  · replace h := h.2 z
    refine WP.aload_n 0 (dg tX7_findOdds 5 rfl) rfl rfl ?_
    refine WP.getF fX7_81 h0.1 (dg tX7_findOdds 6 rfl) ?_
    refine WP.iload 5 (dg tX7_findOdds 7 rfl) rfl ?_
    refine WP.lconst (v := 0) (dg tX7_findOdds 8 rfl) (by decide) ?_
    obtain ⟨hb17, h⟩ := h
    refine WP.last h0.2.2.2.2.2.2.2.2.2.2.2.2.2.2.2.2.2.2.2.2.2.2.2.2.1 hb17 (dg tX7_findOdds 9 rfl) (fun M1 e_M1 => ?_)
    have h := h M1 e_M1
    obtain ⟨v2, e_v2⟩ : ∃ y : Int32, y = x5 + 1 := ⟨_, rfl⟩
    have h := h v2 e_v2
    refine WP.iinc (v := v2) (L2 := [(5, .int v2), (0, .ref x0), (1, .int x1), (2, .int x2), (3, .int x3), (4, .int x4)]) 5 (dg tX7_findOdds 10 rfl) rfl (by rw [e_v2]; rfl) (by decide) rfl ?_
    refine WP.goto (tgt := 3) (dg tX7_findOdds 11 rfl) (by decide) ?_
    refine WP.sub [1, 2, 3, 4, 5, 0] rfl ?_
    exact h
theorem sg_X7_findOdds_57 {T : Th} {M : Mm} {Q : Mm → Prop} {x0 : Nat} {x1 : Int32} {x2 : Int32} {x3 : Int32} {x4 : Int32} {x5 : Int32} {x6 : Int32} (h0 : isX7 T x0)
    (h : (x3 < x6 → ∀ M1 : Mm, M1 = sL M x0 37 0 → WP T mX7_findOdds 322 [(0, .ref x0), (6, .int 0)] [] M1 (qv Q)) ∧ (¬ x3 < x6 → WPi T mX7_sunAt [.ref x0, .int ((M.1 (x0 + 17) 0) + x6)] M (fun v2 M1 => ∀ v3 : Int32, v3 = v2 + x4 → WP T mX7_findOdds 84 [(0, .ref x0), (1, .int x1), (2, .int x2), (3, .int x3), (4, .int x4), (5, .int x5), (6, .int x6), (7, .int v3), (8, .int 0)] [] M1 (qv Q)))) :
    WP T mX7_findOdds 57 [(0, .ref x0), (1, .int x1), (2, .int x2), (3, .int x3), (4, .int x4), (5, .int x5), (6, .int x6)] [] M (qv Q) := by
  refine WP.iload 6 (dg tX7_findOdds 34 rfl) rfl ?_
  refine WP.iload_n 3 (dg tX7_findOdds 35 rfl) rfl rfl ?_
  refine WP.icmp_gt (tgt := 314) (dg tX7_findOdds 36 rfl) (by decide) (fun z => ?_) (fun z => ?_)
  · replace h := h.1 z
    refine WP.aload_n 0 (dg tX7_findOdds 179 rfl) rfl rfl ?_
    refine WP.lconst (v := 0) (dg tX7_findOdds 180 rfl) (by decide) ?_
    refine WP.putL fX7_225 h0.1 (dg tX7_findOdds 181 rfl) (fun M1 e_M1 => ?_)
    have h := h M1 e_M1
    refine WP.iconst (v := 0) (dg tX7_findOdds 182 rfl) (by decide) ?_
    refine WP.istore (L2 := [(6, .int 0), (0, .ref x0), (1, .int x1), (2, .int x2), (3, .int x3), (4, .int x4), (5, .int x5)]) (dg tX7_findOdds 183 rfl) (by decide) rfl ?_
    refine WP.sub [1, 0] rfl ?_
    exact h
  · replace h := h.2 z
    refine WP.aload_n 0 (dg tX7_findOdds 37 rfl) rfl rfl ?_
    refine WP.aload_n 0 (dg tX7_findOdds 38 rfl) rfl rfl ?_
    refine WP.getF fX7_59 h0.1 (dg tX7_findOdds 39 rfl) ?_
    refine WP.iconst (v := 0) (dg tX7_findOdds 40 rfl) (by decide) ?_
    refine WP.ialdc (k := 0) h0.2.2.2.2.2.2.2.2.2.2.2.2.2.2.2.2.2.1 (by decide) (by decide) (dg tX7_findOdds 41 rfl) ?_
    refine WP.iload 6 (dg tX7_findOdds 42 rfl) rfl ?_
    refine WP.iadd (dg tX7_findOdds 43 rfl) ?_
    refine WP.callVi (As := [.int ((M.1 (x0 + 17) 0) + x6)]) (st := []) vX7_173 h0.1 rfl rfl ⟨Nat.le_of_ble_eq_true rfl, Nat.le_of_ble_eq_true rfl⟩ (Nat.le_of_ble_eq_true rfl) rfl (dg tX7_findOdds 44 rfl) h (fun v2 M1 h => ?_)
    refine WP.iload 4 (dg tX7_findOdds 45 rfl) rfl ?_
    refine WP.iadd (dg tX7_findOdds 46 rfl) ?_
    refine WP.topi (fun v3 e_v3 => ?_)
    have h := h v3 e_v3
    refine WP.istore (L2 := [(7, .int v3), (0, .ref x0), (1, .int x1), (2, .int x2), (3, .int x3), (4, .int x4), (5, .int x5), (6, .int x6)]) (dg tX7_findOdds 47 rfl) (by decide) rfl ?_
    refine WP.iconst (v := 0) (dg tX7_findOdds 48 rfl) (by decide) ?_
    refine WP.istore (L2 := [(8, .int 0), (7, .int v3), (0, .ref x0), (1, .int x1), (2, .int x2), (3, .int x3), (4, .int x4), (5, .int x5), (6, .int x6)]) (dg tX7_findOdds 49 rfl) (by decide) rfl ?_
    refine WP.sub [2, 3, 4, 5, 6, 7, 8, 1, 0] rfl ?_
    exact h
theorem sg_X7_findOdds_322 {T : Th} {M : Mm} {Q : Mm → Prop} {x0 : Nat} {x6 : Int32} (h0 : isX7 T x0)
    (h : (112 ≤ x6 → Q M) ∧ (¬ 112 ≤ x6 → vp_in x6 112 ∧ (∀ M1 : Mm, M1 = sL M x0 37 ((M.2.1 x0 37) + (M.2.1 (x0 + 24) x6.toNatClampNeg)) → ∀ v2 : Int32, v2 = x6 + 1 → WP T mX7_findOdds 322 [(0, .ref x0), (6, .int v2)] [] M1 (qv Q)))) :
    WP T mX7_findOdds 322 [(0, .ref x0), (6, .int x6)] [] M (qv Q) := by
  refine WP.iload 1 (dg tX7_findOdds 184 rfl) rfl ?_
  refine WP.bipush (v := 112) (dg tX7_findOdds 185 rfl) (by decide) ?_
  refine WP.icmp_ge (tgt := 351) (dg tX7_findOdds 186 rfl) (by decide) (fun z => ?_) (fun z => ?_)
  · replace h := h.1 z
    exact WP.vret rfl (dg tX7_findOdds 198 rfl) ⟨rfl, h⟩
  · replace h := h.2 z
    refine WP.aload_n 0 (dg tX7_findOdds 187 rfl) rfl rfl ?_
    refine WP.dup (dg tX7_findOdds 188 rfl) rfl ?_
    refine WP.getL fX7_225 h0.1 (dg tX7_findOdds 189 rfl) ?_
    refine WP.aload_n 0 (dg tX7_findOdds 190 rfl) rfl rfl ?_
    refine WP.getF fX7_81 h0.1 (dg tX7_findOdds 191 rfl) ?_
    refine WP.iload 1 (dg tX7_findOdds 192 rfl) rfl ?_
    obtain ⟨hb340, h⟩ := h
    refine WP.lald h0.2.2.2.2.2.2.2.2.2.2.2.2.2.2.2.2.2.2.2.2.2.2.2.2.1 hb340 (dg tX7_findOdds 193 rfl) ?_
    refine WP.ladd (dg tX7_findOdds 194 rfl) ?_
    refine WP.putL fX7_225 h0.1 (dg tX7_findOdds 195 rfl) (fun M1 e_M1 => ?_)
    have h := h M1 e_M1
    obtain ⟨v2, e_v2⟩ : ∃ y : Int32, y = x6 + 1 := ⟨_, rfl⟩
    have h := h v2 e_v2
    refine WP.iinc (v := v2) (L2 := [(6, .int v2), (0, .ref x0)]) 1 (dg tX7_findOdds 196 rfl) rfl (by rw [e_v2]; rfl) (by decide) rfl ?_
    refine WP.goto (tgt := 322) (dg tX7_findOdds 197 rfl) (by decide) ?_
    refine WP.sub [1, 0] rfl ?_
    exact h
theorem sg_X7_findOdds_84 {T : Th} {M : Mm} {Q : Mm → Prop} {x0 : Nat} {x1 : Int32} {x2 : Int32} {x3 : Int32} {x4 : Int32} {x5 : Int32} {x6 : Int32} {x7 : Int32} {x8 : Int32} (h0 : isX7 T x0)
    (h : (112 ≤ x8 → WP T mX7_findOdds 108 [(0, .ref x0), (1, .int x1), (2, .int x2), (3, .int x3), (4, .int x4), (5, .int x5), (6, .int x6), (7, .int x7), (8, .int 0)] [] M (qv Q)) ∧ (¬ 112 ≤ x8 → vp_in x8 112 ∧ (∀ M1 : Mm, M1 = sL M (x0 + 25) x8.toNatClampNeg 0 → ∀ v2 : Int32, v2 = x8 + 1 → WP T mX7_findOdds 84 [(0, .ref x0), (1, .int x1), (2, .int x2), (3, .int x3), (4, .int x4), (5, .int x5), (6, .int x6), (7, .int x7), (8, .int v2)] [] M1 (qv Q)))) :
    WP T mX7_findOdds 84 [(0, .ref x0), (1, .int x1), (2, .int x2), (3, .int x3), (4, .int x4), (5, .int x5), (6, .int x6), (7, .int x7), (8, .int x8)] [] M (qv Q) := by
  refine WP.iload 8 (dg tX7_findOdds 50 rfl) rfl ?_
  refine WP.bipush (v := 112) (dg tX7_findOdds 51 rfl) (by decide) ?_
  refine WP.icmp_ge (tgt := 105) (dg tX7_findOdds 52 rfl) (by decide) (fun z => ?_) (fun z => ?_)
  · replace h := h.1 z
    refine WP.iconst (v := 0) (dg tX7_findOdds 60 rfl) (by decide) ?_
    refine WP.istore (L2 := [(8, .int 0), (0, .ref x0), (1, .int x1), (2, .int x2), (3, .int x3), (4, .int x4), (5, .int x5), (6, .int x6), (7, .int x7)]) (dg tX7_findOdds 61 rfl) (by decide) rfl ?_
    refine WP.sub [1, 2, 3, 4, 5, 6, 7, 8, 0] rfl ?_
    exact h
  · replace h := h.2 z
    refine WP.aload_n 0 (dg tX7_findOdds 53 rfl) rfl rfl ?_
    refine WP.getF fX7_85 h0.1 (dg tX7_findOdds 54 rfl) ?_
    refine WP.iload 8 (dg tX7_findOdds 55 rfl) rfl ?_
    refine WP.lconst (v := 0) (dg tX7_findOdds 56 rfl) (by decide) ?_
    obtain ⟨hb98, h⟩ := h
    refine WP.last h0.2.2.2.2.2.2.2.2.2.2.2.2.2.2.2.2.2.2.2.2.2.2.2.2.2 hb98 (dg tX7_findOdds 57 rfl) (fun M1 e_M1 => ?_)
    have h := h M1 e_M1
    obtain ⟨v2, e_v2⟩ : ∃ y : Int32, y = x8 + 1 := ⟨_, rfl⟩
    have h := h v2 e_v2
    refine WP.iinc (v := v2) (L2 := [(8, .int v2), (0, .ref x0), (1, .int x1), (2, .int x2), (3, .int x3), (4, .int x4), (5, .int x5), (6, .int x6), (7, .int x7)]) 8 (dg tX7_findOdds 58 rfl) rfl (by rw [e_v2]; rfl) (by decide) rfl ?_
    refine WP.goto (tgt := 84) (dg tX7_findOdds 59 rfl) (by decide) ?_
    refine WP.sub [1, 2, 3, 4, 5, 6, 7, 8, 0] rfl ?_
    exact h
theorem sg_X7_findOdds_108 {T : Th} {M : Mm} {Q : Mm → Prop} {x0 : Nat} {x1 : Int32} {x2 : Int32} {x3 : Int32} {x4 : Int32} {x5 : Int32} {x6 : Int32} {x7 : Int32} {x8 : Int32} (h0 : isX7 T x0)
    (h : (104 ≤ x8 → WP T mX7_findOdds 269 [(0, .ref x0), (1, .int x1), (2, .int x2), (3, .int x3), (4, .int x4), (5, .int x5), (6, .int x6), (8, .int 0)] [] M (qv Q)) ∧ (¬ 104 ≤ x8 → vp_in x8 112 ∧ (((lg_cmp (M.2.1 (x0 + 24) x8.toNatClampNeg) 0) ≤ 0 → ∀ v1 : Int32, v1 = x8 + 1 → WP T mX7_findOdds 108 [(0, .ref x0), (1, .int x1), (2, .int x2), (3, .int x3), (4, .int x4), (5, .int x5), (6, .int x6), (7, .int x7), (8, .int v1)] [] M (qv Q)) ∧ (¬ (lg_cmp (M.2.1 (x0 + 24) x8.toNatClampNeg) 0) ≤ 0 → ∀ v1 : Int32, v1 = x8 / 8 → ∀ v2 : Int32, v2 = x8 - x8 / 8 * 8 → ((x5 + v1) ≤ x7 → (2 ≤ v2 → WP T mX7_findOdds 182 [(0, .ref x0), (1, .int x1), (2, .int x2), (3, .int x3), (4, .int x4), (5, .int x5), (6, .int x6), (7, .int x7), (8, .int x8), (9, .int v1)] [.int 0] M (qv Q)) ∧ (¬ 2 ≤ v2 → WP T mX7_findOdds 182 [(0, .ref x0), (1, .int x1), (2, .int x2), (3, .int x3), (4, .int x4), (5, .int x5), (6, .int x6), (7, .int x7), (8, .int x8), (9, .int v1)] [.int 1] M (qv Q))) ∧ (¬ (x5 + v1) ≤ x7 → vp_in x8 112 ∧ (vp_in x8 112 ∧ (vp_in x8 112 ∧ (∀ M3 : Mm, M3 = sL M (x0 + 25) x8.toNatClampNeg ((M.2.1 (x0 + 25) x8.toNatClampNeg) + ((M.2.1 (x0 + 24) x8.toNatClampNeg) * x2.toInt64)) → (2 ≤ v2 → WP T mX7_findOdds 182 [(0, .ref x0), (1, .int x1), (2, .int x2), (3, .int x3), (4, .int x4), (5, .int x5), (6, .int x6), (7, .int x7), (8, .int x8), (9, .int v1)] [.int 0] M3 (qv Q)) ∧ (¬ 2 ≤ v2 → WP T mX7_findOdds 182 [(0, .ref x0), (1, .int x1), (2, .int x2), (3, .int x3), (4, .int x4), (5, .int x5), (6, .int x6), (7, .int x7), (8, .int x8), (9, .int v1)] [.int 1] M3 (qv Q)))))))))) :
    WP T mX7_findOdds 108 [(0, .ref x0), (1, .int x1), (2, .int x2), (3, .int x3), (4, .int x4), (5, .int x5), (6, .int x6), (7, .int x7), (8, .int x8)] [] M (qv Q) := by
  refine WP.iload 8 (dg tX7_findOdds 62 rfl) rfl ?_
  refine WP.bipush (v := 104) (dg tX7_findOdds 63 rfl) (by decide) ?_
  refine WP.icmp_ge (tgt := 266) (dg tX7_findOdds 64 rfl) (by decide) (fun z => ?_) (fun z => ?_)
  · replace h := h.1 z
    refine WP.iconst (v := 0) (dg tX7_findOdds 156 rfl) (by decide) ?_
    refine WP.istore (L2 := [(8, .int 0), (0, .ref x0), (1, .int x1), (2, .int x2), (3, .int x3), (4, .int x4), (5, .int x5), (6, .int x6), (7, .int x7)]) (dg tX7_findOdds 157 rfl) (by decide) rfl ?_
    refine WP.sub [1, 2, 3, 4, 5, 6, 7, 0] rfl ?_
    exact h
  · replace h := h.2 z
    refine WP.aload_n 0 (dg tX7_findOdds 65 rfl) rfl rfl ?_
    refine WP.getF fX7_81 h0.1 (dg tX7_findOdds 66 rfl) ?_
    refine WP.iload 8 (dg tX7_findOdds 67 rfl) rfl ?_
    obtain ⟨hb121, h⟩ := h
    refine WP.lald h0.2.2.2.2.2.2.2.2.2.2.2.2.2.2.2.2.2.2.2.2.2.2.2.2.1 hb121 (dg tX7_findOdds 68 rfl) ?_
    refine WP.lconst (v := 0) (dg tX7_findOdds 69 rfl) (by decide) ?_
    refine WP.lcmp (dg tX7_findOdds 70 rfl) ?_
    refine WP.if_le (tgt := 260) (dg tX7_findOdds 71 rfl) (by decide) (fun z => ?_) (fun z => ?_)
    · replace h := h.1 z
      obtain ⟨v1, e_v1⟩ : ∃ y : Int32, y = x8 + 1 := ⟨_, rfl⟩
      have h := h v1 e_v1
      refine WP.iinc (v := v1) (L2 := [(8, .int v1), (0, .ref x0), (1, .int x1), (2, .int x2), (3, .int x3), (4, .int x4), (5, .int x5), (6, .int x6), (7, .int x7)]) 8 (dg tX7_findOdds 154 rfl) rfl (by rw [e_v1]; rfl) (by decide) rfl ?_
      refine WP.goto (tgt := 108) (dg tX7_findOdds 155 rfl) (by decide) ?_
      refine WP.sub [1, 2, 3, 4, 5, 6, 7, 8, 0] rfl ?_
      exact h
    · replace h := h.2 z
      refine WP.iload 8 (dg tX7_findOdds 72 rfl) rfl ?_
      refine WP.bipush (v := 8) (dg tX7_findOdds 73 rfl) (by decide) ?_
      refine WP.idiv (dg tX7_findOdds 74 rfl) (by decide) ?_
      refine WP.topi (fun v1 e_v1 => ?_)
      have h := h v1 e_v1
      refine WP.istore (L2 := [(9, .int v1), (0, .ref x0), (1, .int x1), (2, .int x2), (3, .int x3), (4, .int x4), (5, .int x5), (6, .int x6), (7, .int x7), (8, .int x8)]) (dg tX7_findOdds 75 rfl) (by decide) rfl ?_
      refine WP.iload 9 (dg tX7_findOdds 76 rfl) rfl ?_
      refine WP.bipush (v := 8) (dg tX7_findOdds 77 rfl) (by decide) ?_
      refine WP.irem (dg tX7_findOdds 78 rfl) (by decide) ?_
      refine WP.topi (fun v2 e_v2 => ?_)
      have h := h v2 e_v2
      refine WP.istore (L2 := [(10, .int v2), (9, .int v1), (0, .ref x0), (1, .int x1), (2, .int x2), (3, .int x3), (4, .int x4), (5, .int x5), (6, .int x6), (7, .int x7), (8, .int x8)]) (dg tX7_findOdds 79 rfl) (by decide) rfl ?_
      refine WP.iload 7 (dg tX7_findOdds 80 rfl) rfl ?_
      refine WP.iload 1 (dg tX7_findOdds 81 rfl) rfl ?_
      refine WP.iadd (dg tX7_findOdds 82 rfl) ?_
      refine WP.iload 9 (dg tX7_findOdds 83 rfl) rfl ?_
      refine WP.icmp_le (tgt := 171) (dg tX7_findOdds 84 rfl) (by decide) (fun z => ?_) (fun z => ?_)
      · replace h := h.1 z
        refine WP.iload 0 (dg tX7_findOdds 99 rfl) rfl ?_
        refine WP.iconst (v := 2) (dg tX7_findOdds 100 rfl) (by decide) ?_
        refine WP.icmp_ge (tgt := 181) (dg tX7_findOdds 101 rfl) (by decide) (fun z => ?_) (fun z => ?_)
        · replace h := h.1 z
          refine WP.iconst (v := 0) (dg tX7_findOdds 104 rfl) (by decide) ?_
          refine WP.sub [2, 3, 4, 5, 6, 7, 8, 9, 10, 1] rfl ?_
          exact h
        · replace h := h.2 z
          refine WP.iconst (v := 1) (dg tX7_findOdds 102 rfl) (by decide) ?_
          refine WP.goto (tgt := 182) (dg tX7_findOdds 103 rfl) (by decide) ?_
          refine WP.sub [2, 3, 4, 5, 6, 7, 8, 9, 10, 1] rfl ?_
          exact h
      · replace h := h.2 z
        refine WP.aload_n 2 (dg tX7_findOdds 85 rfl) rfl rfl ?_
        refine WP.getF fX7_85 h0.1 (dg tX7_findOdds 86 rfl) ?_
        refine WP.iload 10 (dg tX7_findOdds 87 rfl) rfl ?_
        refine WP.dup2 (dg tX7_findOdds 88 rfl) rfl rfl ?_
        obtain ⟨hb158, h⟩ := h
        refine WP.lald h0.2.2.2.2.2.2.2.2.2.2.2.2.2.2.2.2.2.2.2.2.2.2.2.2.2 hb158 (dg tX7_findOdds 89 rfl) ?_
        refine WP.aload_n 2 (dg tX7_findOdds 90 rfl) rfl rfl ?_
        refine WP.getF fX7_81 h0.1 (dg tX7_findOdds 91 rfl) ?_
        refine WP.iload 10 (dg tX7_findOdds 92 rfl) rfl ?_
        obtain ⟨hb165, h⟩ := h
        refine WP.lald h0.2.2.2.2.2.2.2.2.2.2.2.2.2.2.2.2.2.2.2.2.2.2.2.2.1 hb165 (dg tX7_findOdds 93 rfl) ?_
        refine WP.iload_n 4 (dg tX7_findOdds 94 rfl) rfl rfl ?_
        refine WP.i2l (dg tX7_findOdds 95 rfl) ?_
        refine WP.lmul (dg tX7_findOdds 96 rfl) ?_
        refine WP.ladd (dg tX7_findOdds 97 rfl) ?_
        obtain ⟨hb170, h⟩ := h
        refine WP.last h0.2.2.2.2.2.2.2.2.2.2.2.2.2.2.2.2.2.2.2.2.2.2.2.2.2 hb170 (dg tX7_findOdds 98 rfl) (fun M3 e_M3 => ?_)
        have h := h M3 e_M3
        refine WP.iload 0 (dg tX7_findOdds 99 rfl) rfl ?_
        refine WP.iconst (v := 2) (dg tX7_findOdds 100 rfl) (by decide) ?_
        refine WP.icmp_ge (tgt := 181) (dg tX7_findOdds 101 rfl) (by decide) (fun z => ?_) (fun z => ?_)
        · replace h := h.1 z
          refine WP.iconst (v := 0) (dg tX7_findOdds 104 rfl) (by decide) ?_
          refine WP.sub [2, 3, 4, 5, 6, 7, 8, 9, 10, 1] rfl ?_
          exact h
        · replace h := h.2 z
          refine WP.iconst (v := 1) (dg tX7_findOdds 102 rfl) (by decide) ?_
          refine WP.goto (tgt := 182) (dg tX7_findOdds 103 rfl) (by decide) ?_
          refine WP.sub [2, 3, 4, 5, 6, 7, 8, 9, 10, 1] rfl ?_
          exact h
theorem sg_X7_findOdds_269 {T : Th} {M : Mm} {Q : Mm → Prop} {x0 : Nat} {x1 : Int32} {x2 : Int32} {x3 : Int32} {x4 : Int32} {x5 : Int32} {x6 : Int32} {x8 : Int32} (h0 : isX7 T x0)
    (h : (112 ≤ x8 → ∀ M1 : Mm, M1 = sL M x0 38 ((M.2.1 x0 38) * 10) → ∀ v2 : Int32, v2 = x6 + 1 → WP T mX7_findOdds 57 [(0, .ref x0), (1, .int x1), (2, .int x2), (3, .int x3), (4, .int x4), (5, .int x5), (6, .int v2)] [] M1 (qv Q)) ∧ (¬ 112 ≤ x8 → vp_in x8 112 ∧ (vp_in x8 112 ∧ (∀ M1 : Mm, M1 = sL M (x0 + 24) x8.toNatClampNeg (M.2.1 (x0 + 25) x8.toNatClampNeg) → ∀ v2 : Int32, v2 = x8 + 1 → WP T mX7_findOdds 269 [(0, .ref x0), (1, .int x1), (2, .int x2), (3, .int x3), (4, .int x4), (5, .int x5), (6, .int x6), (8, .int v2)] [] M1 (qv Q))))) :
    WP T mX7_findOdds 269 [(0, .ref x0), (1, .int x1), (2, .int x2), (3, .int x3), (4, .int x4), (5, .int x5), (6, .int x6), (8, .int x8)] [] M (qv Q) := by
  refine WP.iload 7 (dg tX7_findOdds 158 rfl) rfl ?_
  refine WP.bipush (v := 112) (dg tX7_findOdds 159 rfl) (by decide) ?_
  refine WP.icmp_ge (tgt := 296) (dg tX7_findOdds 160 rfl) (by decide) (fun z => ?_) (fun z => ?_)
  · replace h := h.1 z
    refine WP.aload_n 0 (dg tX7_findOdds 171 rfl) rfl rfl ?_
    refine WP.dup (dg tX7_findOdds 172 rfl) rfl ?_
    refine WP.getL fX7_219 h0.1 (dg tX7_findOdds 173 rfl) ?_
    refine WP.ldc2 (v := 10) kX7_223 (dg tX7_findOdds 174 rfl) ?_
    refine WP.lmul (dg tX7_findOdds 175 rfl) ?_
    refine WP.putL fX7_219 h0.1 (dg tX7_findOdds 176 rfl) (fun M1 e_M1 => ?_)
    have h := h M1 e_M1
    obtain ⟨v2, e_v2⟩ : ∃ y : Int32, y = x6 + 1 := ⟨_, rfl⟩
    have h := h v2 e_v2
    refine WP.iinc (v := v2) (L2 := [(6, .int v2), (0, .ref x0), (1, .int x1), (2, .int x2), (3, .int x3), (4, .int x4), (5, .int x5), (8, .int x8)]) 6 (dg tX7_findOdds 177 rfl) rfl (by rw [e_v2]; rfl) (by decide) rfl ?_
    refine WP.goto (tgt := 57) (dg tX7_findOdds 178 rfl) (by decide) ?_
    refine WP.sub [1, 2, 3, 4, 5, 6, 0] rfl ?_
    exact h
  · replace h := h.2 z
    refine WP.aload_n 0 (dg tX7_findOdds 161 rfl) rfl rfl ?_
    refine WP.getF fX7_81 h0.1 (dg tX7_findOdds 162 rfl) ?_
    refine WP.iload 7 (dg tX7_findOdds 163 rfl) rfl ?_
    refine WP.aload_n 0 (dg tX7_findOdds 164 rfl) rfl rfl ?_
    refine WP.getF fX7_85 h0.1 (dg tX7_findOdds 165 rfl) ?_
    refine WP.iload 7 (dg tX7_findOdds 166 rfl) rfl ?_
    obtain ⟨hb288, h⟩ := h
    refine WP.lald h0.2.2.2.2.2.2.2.2.2.2.2.2.2.2.2.2.2.2.2.2.2.2.2.2.2 hb288 (dg tX7_findOdds 167 rfl) ?_
    obtain ⟨hb289, h⟩ := h
    refine WP.last h0.2.2.2.2.2.2.2.2.2.2.2.2.2.2.2.2.2.2.2.2.2.2.2.2.1 hb289 (dg tX7_findOdds 168 rfl) (fun M1 e_M1 => ?_)
    have h := h M1 e_M1
    obtain ⟨v2, e_v2⟩ : ∃ y : Int32, y = x8 + 1 := ⟨_, rfl⟩
    have h := h v2 e_v2
    refine WP.iinc (v := v2) (L2 := [(8, .int v2), (0, .ref x0), (1, .int x1), (2, .int x2), (3, .int x3), (4, .int x4), (5, .int x5), (6, .int x6)]) 7 (dg tX7_findOdds 169 rfl) rfl (by rw [e_v2]; rfl) (by decide) rfl ?_
    refine WP.goto (tgt := 269) (dg tX7_findOdds 170 rfl) (by decide) ?_
    refine WP.sub [1, 2, 3, 4, 5, 6, 7, 0] rfl ?_
    exact h
theorem sg_X7_findOdds_182 {T : Th} {M : Mm} {Q : Mm → Prop} {x0 : Nat} {x1 : Int32} {x2 : Int32} {x3 : Int32} {x4 : Int32} {x5 : Int32} {x6 : Int32} {x7 : Int32} {x8 : Int32} {x9 : Int32} {s0 : Int32} (h0 : isX7 T x0)
    (h : (s0 = 0 → WP T mX7_findOdds 222 [(0, .ref x0), (1, .int x1), (2, .int x2), (3, .int x3), (4, .int x4), (5, .int x5), (6, .int x6), (7, .int x7), (8, .int x8)] [.int (x8 - 1)] M (qv Q)) ∧ (¬ s0 = 0 → WPi T mX7_costAt [.ref x0, .int ((x5 + x9) + 1)] M (fun v2 M1 => vp_in x1 5 ∧ (WP T mX7_findOdds 222 [(0, .ref x0), (1, .int x1), (2, .int x2), (3, .int x3), (4, .int x4), (5, .int x5), (6, .int x6), (7, .int x7), (8, .int x8)] [.int (((8 * (x9 + 1)) + v2) + (M1.1 (x0 + 16) x1.toNatClampNeg))] M1 (qv Q))))) :
    WP T mX7_findOdds 182 [(0, .ref x0), (1, .int x1), (2, .int x2), (3, .int x3), (4, .int x4), (5, .int x5), (6, .int x6), (7, .int x7), (8, .int x8), (9, .int x9)] [.int s0] M (qv Q) := by
  refine WP.istore (L2 := [(11, .int s0), (0, .ref x0), (1, .int x1), (2, .int x2), (3, .int x3), (4, .int x4), (5, .int x5), (6, .int x6), (7, .int x7), (8, .int x8), (9, .int x9)]) (dg tX7_findOdds 105 rfl) (by decide) rfl ?_
  refine WP.iload 0 (dg tX7_findOdds 106 rfl) rfl ?_
  refine WP.if_eq (tgt := 218) (dg tX7_findOdds 107 rfl) (by decide) (fun z => ?_) (fun z => ?_)
  · replace h := h.1 z
    refine WP.iload 9 (dg tX7_findOdds 127 rfl) rfl ?_
    refine WP.iconst (v := 1) (dg tX7_findOdds 128 rfl) (by decide) ?_
    refine WP.isub (dg tX7_findOdds 129 rfl) ?_
    refine WP.sub [1, 2, 3, 4, 5, 6, 7, 8, 9] rfl ?_
    exact h
  · replace h := h.2 z
    refine WP.bipush (v := 8) (dg tX7_findOdds 108 rfl) (by decide) ?_
    refine WP.iload 10 (dg tX7_findOdds 109 rfl) rfl ?_
    refine WP.iconst (v := 1) (dg tX7_findOdds 110 rfl) (by decide) ?_
    refine WP.iadd (dg tX7_findOdds 111 rfl) ?_
    refine WP.imul (dg tX7_findOdds 112 rfl) ?_
    refine WP.aload_n 1 (dg tX7_findOdds 113 rfl) rfl rfl ?_
    refine WP.iload 6 (dg tX7_findOdds 114 rfl) rfl ?_
    refine WP.iload 10 (dg tX7_findOdds 115 rfl) rfl ?_
    refine WP.iadd (dg tX7_findOdds 116 rfl) ?_
    refine WP.iconst (v := 1) (dg tX7_findOdds 117 rfl) (by decide) ?_
    refine WP.iadd (dg tX7_findOdds 118 rfl) ?_
    refine WP.callVi (As := [.int ((x5 + x9) + 1)]) (st := [.int (8 * (x9 + 1))]) vX7_160 h0.1 rfl rfl ⟨Nat.le_of_ble_eq_true rfl, Nat.le_of_ble_eq_true rfl⟩ (Nat.le_of_ble_eq_true rfl) rfl (dg tX7_findOdds 119 rfl) h (fun v2 M1 h => ?_)
    refine WP.iadd (dg tX7_findOdds 120 rfl) ?_
    refine WP.aload_n 1 (dg tX7_findOdds 121 rfl) rfl rfl ?_
    refine WP.getF fX7_56 h0.1 (dg tX7_findOdds 122 rfl) ?_
    refine WP.iload_n 2 (dg tX7_findOdds 123 rfl) rfl rfl ?_
    obtain ⟨hb213, h⟩ := h
    refine WP.iald h0.2.2.2.2.2.2.2.2.2.2.2.2.2.2.2.2.1 hb213 (dg tX7_findOdds 124 rfl) ?_
    refine WP.iadd (dg tX7_findOdds 125 rfl) ?_
    refine WP.goto (tgt := 222) (dg tX7_findOdds 126 rfl) (by decide) ?_
    refine WP.sub [1, 2, 3, 4, 5, 6, 7, 8, 9] rfl ?_
    exact h
theorem sg_X7_findOdds_222 {T : Th} {M : Mm} {Q : Mm → Prop} {x0 : Nat} {x1 : Int32} {x2 : Int32} {x3 : Int32} {x4 : Int32} {x5 : Int32} {x6 : Int32} {x7 : Int32} {x8 : Int32} {s0 : Int32} (h0 : isX7 T x0)
    (h : ((x5 + (s0 / 8)) ≤ x7 → ∀ v1 : Int32, v1 = x8 + 1 → WP T mX7_findOdds 108 [(0, .ref x0), (1, .int x1), (2, .int x2), (3, .int x3), (4, .int x4), (5, .int x5), (6, .int x6), (7, .int x7), (8, .int v1)] [] M (qv Q)) ∧ (¬ (x5 + (s0 / 8)) ≤ x7 → vp_in s0 112 ∧ (vp_in x8 112 ∧ (vp_in s0 112 ∧ (∀ M1 : Mm, M1 = sL M (x0 + 25) s0.toNatClampNeg ((M.2.1 (x0 + 25) s0.toNatClampNeg) + ((M.2.1 (x0 + 24) x8.toNatClampNeg) * ((10 - x2).toInt64))) → ∀ v2 : Int32, v2 = x8 + 1 → WP T mX7_findOdds 108 [(0, .ref x0), (1, .int x1), (2, .int x2), (3, .int x3), (4, .int x4), (5, .int x5), (6, .int x6), (7, .int x7), (8, .int v2)] [] M1 (qv Q)))))) :
    WP T mX7_findOdds 222 [(0, .ref x0), (1, .int x1), (2, .int x2), (3, .int x3), (4, .int x4), (5, .int x5), (6, .int x6), (7, .int x7), (8, .int x8)] [.int s0] M (qv Q) := by
  refine WP.istore (L2 := [(12, .int s0), (0, .ref x0), (1, .int x1), (2, .int x2), (3, .int x3), (4, .int x4), (5, .int x5), (6, .int x6), (7, .int x7), (8, .int x8)]) (dg tX7_findOdds 130 rfl) (by decide) rfl ?_
  refine WP.iload 6 (dg tX7_findOdds 131 rfl) rfl ?_
  refine WP.iload 0 (dg tX7_findOdds 132 rfl) rfl ?_
  refine WP.bipush (v := 8) (dg tX7_findOdds 133 rfl) (by decide) ?_
  refine WP.idiv (dg tX7_findOdds 134 rfl) (by decide) ?_
  refine WP.iadd (dg tX7_findOdds 135 rfl) ?_
  refine WP.iload 8 (dg tX7_findOdds 136 rfl) rfl ?_
  refine WP.icmp_le (tgt := 260) (dg tX7_findOdds 137 rfl) (by decide) (fun z => ?_) (fun z => ?_)
  · replace h := h.1 z
    obtain ⟨v1, e_v1⟩ : ∃ y : Int32, y = x8 + 1 := ⟨_, rfl⟩
    have h := h v1 e_v1
    refine WP.iinc (v := v1) (L2 := [(8, .int v1), (12, .int s0), (0, .ref x0), (1, .int x1), (2, .int x2), (3, .int x3), (4, .int x4), (5, .int x5), (6, .int x6), (7, .int x7)]) 9 (dg tX7_findOdds 154 rfl) rfl (by rw [e_v1]; rfl) (by decide) rfl ?_
    refine WP.goto (tgt := 108) (dg tX7_findOdds 155 rfl) (by decide) ?_
    refine WP.sub [2, 3, 4, 5, 6, 7, 8, 9, 0] rfl ?_
    exact h
  · replace h := h.2 z
    refine WP.aload_n 1 (dg tX7_findOdds 138 rfl) rfl rfl ?_
    refine WP.getF fX7_85 h0.1 (dg tX7_findOdds 139 rfl) ?_
    refine WP.iload 0 (dg tX7_findOdds 140 rfl) rfl ?_
    refine WP.dup2 (dg tX7_findOdds 141 rfl) rfl rfl ?_
    obtain ⟨hb244, h⟩ := h
    refine WP.lald h0.2.2.2.2.2.2.2.2.2.2.2.2.2.2.2.2.2.2.2.2.2.2.2.2.2 hb244 (dg tX7_findOdds 142 rfl) ?_
    refine WP.aload_n 1 (dg tX7_findOdds 143 rfl) rfl rfl ?_
    refine WP.getF fX7_81 h0.1 (dg tX7_findOdds 144 rfl) ?_
    refine WP.iload 9 (dg tX7_findOdds 145 rfl) rfl ?_
    obtain ⟨hb251, h⟩ := h
    refine WP.lald h0.2.2.2.2.2.2.2.2.2.2.2.2.2.2.2.2.2.2.2.2.2.2.2.2.1 hb251 (dg tX7_findOdds 146 rfl) ?_
    refine WP.bipush (v := 10) (dg tX7_findOdds 147 rfl) (by decide) ?_
    refine WP.iload_n 3 (dg tX7_findOdds 148 rfl) rfl rfl ?_
    refine WP.isub (dg tX7_findOdds 149 rfl) ?_
    refine WP.i2l (dg tX7_findOdds 150 rfl) ?_
    refine WP.lmul (dg tX7_findOdds 151 rfl) ?_
    refine WP.ladd (dg tX7_findOdds 152 rfl) ?_
    obtain ⟨hb259, h⟩ := h
    refine WP.last h0.2.2.2.2.2.2.2.2.2.2.2.2.2.2.2.2.2.2.2.2.2.2.2.2.2 hb259 (dg tX7_findOdds 153 rfl) (fun M1 e_M1 => ?_)
    have h := h M1 e_M1
    obtain ⟨v2, e_v2⟩ : ∃ y : Int32, y = x8 + 1 := ⟨_, rfl⟩
    have h := h v2 e_v2
    refine WP.iinc (v := v2) (L2 := [(8, .int v2), (12, .int s0), (0, .ref x0), (1, .int x1), (2, .int x2), (3, .int x3), (4, .int x4), (5, .int x5), (6, .int x6), (7, .int x7)]) 9 (dg tX7_findOdds 154 rfl) rfl (by rw [e_v2]; rfl) (by decide) rfl ?_
    refine WP.goto (tgt := 108) (dg tX7_findOdds 155 rfl) (by decide) ?_
    refine WP.sub [2, 3, 4, 5, 6, 7, 8, 9, 0] rfl ?_
    exact h
theorem sg_X7_isAsked_0 {T : Th} {M : Mm} {Q : Int32 → Mm → Prop} {x0 : Nat} {x1 : Int32} {x2 : Int32} {x3 : Int32} (h0 : isX7 T x0)
    (h : WPi T mX7_isWagon [.ref x0, .int x1] M (fun v2 M1 => (v2 = 0 → Q 0 M1) ∧ (¬ v2 = 0 → WPi T mX7_in [.int x2, .int 0, .int 10] M1 (fun v4 M3 => (v4 = 0 → Q 0 M3) ∧ (¬ v4 = 0 → WPi T mX7_in [.int x3, .int 0, .int 12] M3 (fun v6 M5 => (v6 = 0 → Q 0 M5) ∧ (¬ v6 = 0 → Q 1 M5))))))) :
    WP T mX7_isAsked 0 [(0, .ref x0), (1, .int x1), (2, .int x2), (3, .int x3)] [] M (qi Q) := by
  refine WP.aload_n 0 (dg tX7_isAsked 0 rfl) rfl rfl ?_
  refine WP.iload_n 1 (dg tX7_isAsked 1 rfl) rfl rfl ?_
  refine WP.callVi (As := [.int x1]) (st := []) vX7_170 h0.1 rfl rfl ⟨Nat.le_of_ble_eq_true rfl, Nat.le_of_ble_eq_true rfl⟩ (Nat.le_of_ble_eq_true rfl) rfl (dg tX7_isAsked 2 rfl) h (fun v2 M1 h => ?_)
  refine WP.if_eq (tgt := 32) (dg tX7_isAsked 3 rfl) (by decide) (fun z => ?_) (fun z => ?_)
  · replace h := h.1 z
    refine WP.iconst (v := 0) (dg tX7_isAsked 16 rfl) (by decide) ?_
    exact WP.zret rfl (by decide) (dg tX7_isAsked 17 rfl) ⟨_, rfl, h⟩
  · replace h := h.2 z
    refine WP.iload_n 2 (dg tX7_isAsked 4 rfl) rfl rfl ?_
    refine WP.iconst (v := 0) (dg tX7_isAsked 5 rfl) (by decide) ?_
    refine WP.bipush (v := 10) (dg tX7_isAsked 6 rfl) (by decide) ?_
    refine WP.callSi (As := [.int x2, .int 0, .int 10]) (st := []) vX7_88 rfl ⟨Nat.le_of_ble_eq_true rfl, Nat.le_of_ble_eq_true rfl⟩ (Nat.le_of_ble_eq_true rfl) rfl (dg tX7_isAsked 7 rfl) h (fun v4 M3 h => ?_)
    refine WP.if_eq (tgt := 32) (dg tX7_isAsked 8 rfl) (by decide) (fun z => ?_) (fun z => ?_)
    · replace h := h.1 z
      refine WP.iconst (v := 0) (dg tX7_isAsked 16 rfl) (by decide) ?_
      exact WP.zret rfl (by decide) (dg tX7_isAsked 17 rfl) ⟨_, rfl, h⟩
    · replace h := h.2 z
      refine WP.iload_n 3 (dg tX7_isAsked 9 rfl) rfl rfl ?_
      refine WP.iconst (v := 0) (dg tX7_isAsked 10 rfl) (by decide) ?_
      refine WP.bipush (v := 12) (dg tX7_isAsked 11 rfl) (by decide) ?_
      refine WP.callSi (As := [.int x3, .int 0, .int 12]) (st := []) vX7_88 rfl ⟨Nat.le_of_ble_eq_true rfl, Nat.le_of_ble_eq_true rfl⟩ (Nat.le_of_ble_eq_true rfl) rfl (dg tX7_isAsked 12 rfl) h (fun v6 M5 h => ?_)
      refine WP.if_eq (tgt := 32) (dg tX7_isAsked 13 rfl) (by decide) (fun z => ?_) (fun z => ?_)
      · replace h := h.1 z
        refine WP.iconst (v := 0) (dg tX7_isAsked 16 rfl) (by decide) ?_
        exact WP.zret rfl (by decide) (dg tX7_isAsked 17 rfl) ⟨_, rfl, h⟩
      · replace h := h.2 z
        refine WP.iconst (v := 1) (dg tX7_isAsked 14 rfl) (by decide) ?_
        refine WP.goto (tgt := 33) (dg tX7_isAsked 15 rfl) (by decide) ?_
        exact WP.zret rfl (by decide) (dg tX7_isAsked 17 rfl) ⟨_, rfl, h⟩
theorem sg_X7_odds_0 {T : Th} {M : Mm} {Q : Int64 → Mm → Prop} {x0 : Nat} {x1 : Int32} {x2 : Int32} {x3 : Int32} {x4 : Int32} (h0 : isX7 T x0)
    (h : WPi T mX7_isAsked [.ref x0, .int x1, .int x2, .int x3] M (fun v2 M1 => (v2 = 0 → Q (-1) M1) ∧ (¬ v2 = 0 → WPi T mX7_in [.int x4, .int 0, .int 1] M1 (fun v4 M3 => (¬ v4 = 0 → vp_in (21 + x1) 1026 ∧ ((¬ (M3.1 (x0 + 17) (21 + x1).toNatClampNeg) = 1 → WPv T mX7_findOdds [.ref x0, .int x1, .int x2, .int x3, .int 0] M3 (fun M5 => ∀ v6 : Int64, v6 = M5.2.1 x0 37 → ∀ v7 : Int64, v7 = M5.2.1 x0 38 → WP T mX7_odds 61 [(0, .ref x0), (4, .int x4), (5, .long v6), (7, .long v7)] [] M5 (ql Q))) ∧ ((M3.1 (x0 + 17) (21 + x1).toNatClampNeg) = 1 → Q (-2) M3))) ∧ (v4 = 0 → Q (-1) M3))))) :
    WP T mX7_odds 0 [(0, .ref x0), (1, .int x1), (2, .int x2), (3, .int x3), (4, .int x4)] [] M (ql Q) := by
  refine WP.aload_n 0 (dg tX7_odds 0 rfl) rfl rfl ?_
  refine WP.iload_n 1 (dg tX7_odds 1 rfl) rfl rfl ?_
  refine WP.iload_n 2 (dg tX7_odds 2 rfl) rfl rfl ?_
  refine WP.iload_n 3 (dg tX7_odds 3 rfl) rfl rfl ?_
  refine WP.callVi (As := [.int x1, .int x2, .int x3]) (st := []) vX7_228 h0.1 rfl rfl ⟨Nat.le_of_ble_eq_true rfl, Nat.le_of_ble_eq_true rfl⟩ (Nat.le_of_ble_eq_true rfl) rfl (dg tX7_odds 4 rfl) h (fun v2 M1 h => ?_)
  refine WP.if_eq (tgt := 20) (dg tX7_odds 5 rfl) (by decide) (fun z => ?_) (fun z => ?_)
  · replace h := h.1 z
    refine WP.ldc2 (v := (-1)) kX7_231 (dg tX7_odds 11 rfl) ?_
    exact WP.lret rfl (dg tX7_odds 12 rfl) ⟨_, rfl, h⟩
  · replace h := h.2 z
    refine WP.iload 4 (dg tX7_odds 6 rfl) rfl ?_
    refine WP.iconst (v := 0) (dg tX7_odds 7 rfl) (by decide) ?_
    refine WP.iconst (v := 1) (dg tX7_odds 8 rfl) (by decide) ?_
    refine WP.callSi (As := [.int x4, .int 0, .int 1]) (st := []) vX7_88 rfl ⟨Nat.le_of_ble_eq_true rfl, Nat.le_of_ble_eq_true rfl⟩ (Nat.le_of_ble_eq_true rfl) rfl (dg tX7_odds 9 rfl) h (fun v4 M3 h => ?_)
    refine WP.if_ne (tgt := 24) (dg tX7_odds 10 rfl) (by decide) (fun z => ?_) (fun z => ?_)
    · replace h := h.1 z
      refine WP.aload_n 0 (dg tX7_odds 13 rfl) rfl rfl ?_
      refine WP.getF fX7_59 h0.1 (dg tX7_odds 14 rfl) ?_
      refine WP.bipush (v := 21) (dg tX7_odds 15 rfl) (by decide) ?_
      refine WP.iload_n 1 (dg tX7_odds 16 rfl) rfl rfl ?_
      refine WP.iadd (dg tX7_odds 17 rfl) ?_
      obtain ⟨hb32, h⟩ := h
      refine WP.iald h0.2.2.2.2.2.2.2.2.2.2.2.2.2.2.2.2.2.1 hb32 (dg tX7_odds 18 rfl) ?_
      refine WP.iconst (v := 1) (dg tX7_odds 19 rfl) (by decide) ?_
      refine WP.icmp_ne (tgt := 41) (dg tX7_odds 20 rfl) (by decide) (fun z => ?_) (fun z => ?_)
      · replace h := h.1 z
        refine WP.aload_n 0 (dg tX7_odds 23 rfl) rfl rfl ?_
        refine WP.iload_n 1 (dg tX7_odds 24 rfl) rfl rfl ?_
        refine WP.iload_n 2 (dg tX7_odds 25 rfl) rfl rfl ?_
        refine WP.iload_n 3 (dg tX7_odds 26 rfl) rfl rfl ?_
        refine WP.iconst (v := 0) (dg tX7_odds 27 rfl) (by decide) ?_
        refine WP.callVv (As := [.int x1, .int x2, .int x3, .int 0]) (st := []) vX7_235 h0.1 rfl rfl ⟨Nat.le_of_ble_eq_true rfl, Nat.le_of_ble_eq_true rfl⟩ (Nat.le_of_ble_eq_true rfl) rfl (dg tX7_odds 28 rfl) h (fun M5 h => ?_)
        refine WP.aload_n 0 (dg tX7_odds 29 rfl) rfl rfl ?_
        refine WP.getL fX7_225 h0.1 (dg tX7_odds 30 rfl) ?_
        refine WP.topl (fun v6 e_v6 => ?_)
        have h := h v6 e_v6
        refine WP.lstore (L2 := [(5, .long v6), (0, .ref x0), (1, .int x1), (2, .int x2), (3, .int x3), (4, .int x4)]) (dg tX7_odds 31 rfl) (by decide) rfl ?_
        refine WP.aload_n 1 (dg tX7_odds 32 rfl) rfl rfl ?_
        refine WP.getL fX7_219 h0.1 (dg tX7_odds 33 rfl) ?_
        refine WP.topl (fun v7 e_v7 => ?_)
        have h := h v7 e_v7
        refine WP.lstore (L2 := [(7, .long v7), (5, .long v6), (0, .ref x0), (1, .int x1), (2, .int x2), (3, .int x3), (4, .int x4)]) (dg tX7_odds 34 rfl) (by decide) rfl ?_
        refine WP.sub [2, 6, 1, 0] rfl ?_
        exact h
      · replace h := h.2 z
        refine WP.ldc2 (v := (-2)) kX7_233 (dg tX7_odds 21 rfl) ?_
        exact WP.lret rfl (dg tX7_odds 22 rfl) ⟨_, rfl, h⟩
    · replace h := h.2 z
      refine WP.ldc2 (v := (-1)) kX7_231 (dg tX7_odds 11 rfl) ?_
      exact WP.lret rfl (dg tX7_odds 12 rfl) ⟨_, rfl, h⟩
theorem sg_X7_odds_61 {T : Th} {M : Mm} {Q : Int64 → Mm → Prop} {x0 : Nat} {x4 : Int32} {x5 : Int64} {x7 : Int64} (h0 : isX7 T x0)
    (h : ((lg_cmp x7 0) = 0 → (¬ x4 = 0 → ¬ x5 = 0 ∧ (Q ((M.2.1 x0 38) / x5) M)) ∧ (x4 = 0 → ¬ x5 = 0 ∧ (Q ((M.2.1 x0 37) / x5) M))) ∧ (¬ (lg_cmp x7 0) = 0 → ¬ x7 = 0 ∧ (∀ v1 : Int64, v1 = x5 - x5 / x7 * x7 → WP T mX7_odds 61 [(0, .ref x0), (4, .int x4), (5, .long x7), (7, .long v1)] [] M (ql Q)))) :
    WP T mX7_odds 61 [(0, .ref x0), (4, .int x4), (5, .long x5), (7, .long x7)] [] M (ql Q) := by
  refine WP.lload 3 (dg tX7_odds 35 rfl) rfl ?_
  refine WP.lconst (v := 0) (dg tX7_odds 36 rfl) (by decide) ?_
  refine WP.lcmp (dg tX7_odds 37 rfl) ?_
  refine WP.if_eq (tgt := 86) (dg tX7_odds 38 rfl) (by decide) (fun z => ?_) (fun z => ?_)
  · replace h := h.1 z
    refine WP.iload 1 (dg tX7_odds 48 rfl) rfl ?_
    refine WP.if_ne (tgt := 101) (dg tX7_odds 49 rfl) (by decide) (fun z => ?_) (fun z => ?_)
    · replace h := h.1 z
      refine WP.aload_n 0 (dg tX7_odds 55 rfl) rfl rfl ?_
      refine WP.getL fX7_219 h0.1 (dg tX7_odds 56 rfl) ?_
      refine WP.lload 2 (dg tX7_odds 57 rfl) rfl ?_
      obtain ⟨hz107, h⟩ := h
      refine WP.ldiv (dg tX7_odds 58 rfl) hz107 ?_
      exact WP.lret rfl (dg tX7_odds 59 rfl) ⟨_, rfl, h⟩
    · replace h := h.2 z
      refine WP.aload_n 0 (dg tX7_odds 50 rfl) rfl rfl ?_
      refine WP.getL fX7_225 h0.1 (dg tX7_odds 51 rfl) ?_
      refine WP.lload 2 (dg tX7_odds 52 rfl) rfl ?_
      obtain ⟨hz97, h⟩ := h
      refine WP.ldiv (dg tX7_odds 53 rfl) hz97 ?_
      refine WP.goto (tgt := 108) (dg tX7_odds 54 rfl) (by decide) ?_
      exact WP.lret rfl (dg tX7_odds 59 rfl) ⟨_, rfl, h⟩
  · replace h := h.2 z
    refine WP.lload 2 (dg tX7_odds 39 rfl) rfl ?_
    refine WP.lload 3 (dg tX7_odds 40 rfl) rfl ?_
    obtain ⟨hz72, h⟩ := h
    refine WP.lrem (dg tX7_odds 41 rfl) hz72 ?_
    refine WP.topl (fun v1 e_v1 => ?_)
    have h := h v1 e_v1
    refine WP.lstore (L2 := [(9, .long v1), (0, .ref x0), (4, .int x4), (5, .long x5), (7, .long x7)]) (dg tX7_odds 42 rfl) (by decide) rfl ?_
    refine WP.lload 4 (dg tX7_odds 43 rfl) rfl ?_
    refine WP.lstore (L2 := [(5, .long x7), (9, .long v1), (0, .ref x0), (4, .int x4), (7, .long x7)]) (dg tX7_odds 44 rfl) (by decide) rfl ?_
    refine WP.lload 1 (dg tX7_odds 45 rfl) rfl ?_
    refine WP.lstore (L2 := [(7, .long v1), (5, .long x7), (9, .long v1), (0, .ref x0), (4, .int x4)]) (dg tX7_odds 46 rfl) (by decide) rfl ?_
    refine WP.goto (tgt := 61) (dg tX7_odds 47 rfl) (by decide) ?_
    refine WP.sub [3, 4, 1, 0] rfl ?_
    exact h
theorem sg_X7_keepAhead_0 {T : Th} {M : Mm} {Q : Int32 → Mm → Prop} {x0 : Nat} {x1 : Int32} {x2 : Int32} {x3 : Int32} {x4 : Int32} (h0 : isX7 T x0)
    (h : WPi T mX7_isAsked [.ref x0, .int x1, .int x2, .int x3] M (fun v2 M1 => (v2 = 0 → Q (-1) M1) ∧ (¬ v2 = 0 → WPi T mX7_in [.int x4, .int 0, .int 10] M1 (fun v4 M3 => (¬ v4 = 0 → vp_in (21 + x1) 1026 ∧ ((¬ (M3.1 (x0 + 17) (21 + x1).toNatClampNeg) = 1 → WP T mX7_keepAhead 43 [(0, .ref x0), (1, .int x1), (2, .int x2), (3, .int x3), (4, .int x4), (5, .int 20)] [] M3 (qi Q)) ∧ ((M3.1 (x0 + 17) (21 + x1).toNatClampNeg) = 1 → Q (-2) M3))) ∧ (v4 = 0 → Q (-1) M3))))) :
    WP T mX7_keepAhead 0 [(0, .ref x0), (1, .int x1), (2, .int x2), (3, .int x3), (4, .int x4)] [] M (qi Q) := by
  refine WP.aload_n 0 (dg tX7_keepAhead 0 rfl) rfl rfl ?_
  refine WP.iload_n 1 (dg tX7_keepAhead 1 rfl) rfl rfl ?_
  refine WP.iload_n 2 (dg tX7_keepAhead 2 rfl) rfl rfl ?_
  refine WP.iload_n 3 (dg tX7_keepAhead 3 rfl) rfl rfl ?_
  refine WP.callVi (As := [.int x1, .int x2, .int x3]) (st := []) vX7_228 h0.1 rfl rfl ⟨Nat.le_of_ble_eq_true rfl, Nat.le_of_ble_eq_true rfl⟩ (Nat.le_of_ble_eq_true rfl) rfl (dg tX7_keepAhead 4 rfl) h (fun v2 M1 h => ?_)
  refine WP.if_eq (tgt := 21) (dg tX7_keepAhead 5 rfl) (by decide) (fun z => ?_) (fun z => ?_)
  · replace h := h.1 z
    refine WP.iconst (v := (-1)) (dg tX7_keepAhead 11 rfl) (by decide) ?_
    exact WP.iret rfl (dg tX7_keepAhead 12 rfl) ⟨_, rfl, h⟩
  · replace h := h.2 z
    refine WP.iload 4 (dg tX7_keepAhead 6 rfl) rfl ?_
    refine WP.iconst (v := 0) (dg tX7_keepAhead 7 rfl) (by decide) ?_
    refine WP.bipush (v := 10) (dg tX7_keepAhead 8 rfl) (by decide) ?_
    refine WP.callSi (As := [.int x4, .int 0, .int 10]) (st := []) vX7_88 rfl ⟨Nat.le_of_ble_eq_true rfl, Nat.le_of_ble_eq_true rfl⟩ (Nat.le_of_ble_eq_true rfl) rfl (dg tX7_keepAhead 9 rfl) h (fun v4 M3 h => ?_)
    refine WP.if_ne (tgt := 23) (dg tX7_keepAhead 10 rfl) (by decide) (fun z => ?_) (fun z => ?_)
    · replace h := h.1 z
      refine WP.aload_n 0 (dg tX7_keepAhead 13 rfl) rfl rfl ?_
      refine WP.getF fX7_59 h0.1 (dg tX7_keepAhead 14 rfl) ?_
      refine WP.bipush (v := 21) (dg tX7_keepAhead 15 rfl) (by decide) ?_
      refine WP.iload_n 1 (dg tX7_keepAhead 16 rfl) rfl rfl ?_
      refine WP.iadd (dg tX7_keepAhead 17 rfl) ?_
      obtain ⟨hb31, h⟩ := h
      refine WP.iald h0.2.2.2.2.2.2.2.2.2.2.2.2.2.2.2.2.2.1 hb31 (dg tX7_keepAhead 18 rfl) ?_
      refine WP.iconst (v := 1) (dg tX7_keepAhead 19 rfl) (by decide) ?_
      refine WP.icmp_ne (tgt := 39) (dg tX7_keepAhead 20 rfl) (by decide) (fun z => ?_) (fun z => ?_)
      · replace h := h.1 z
        refine WP.bipush (v := 20) (dg tX7_keepAhead 23 rfl) (by decide) ?_
        refine WP.istore (L2 := [(5, .int 20), (0, .ref x0), (1, .int x1), (2, .int x2), (3, .int x3), (4, .int x4)]) (dg tX7_keepAhead 24 rfl) (by decide) rfl ?_
        refine WP.sub [1, 2, 3, 4, 5, 0] rfl ?_
        exact h
      · replace h := h.2 z
        refine WP.bipush (v := (-2)) (dg tX7_keepAhead 21 rfl) (by decide) ?_
        exact WP.iret rfl (dg tX7_keepAhead 22 rfl) ⟨_, rfl, h⟩
    · replace h := h.2 z
      refine WP.iconst (v := (-1)) (dg tX7_keepAhead 11 rfl) (by decide) ?_
      exact WP.iret rfl (dg tX7_keepAhead 12 rfl) ⟨_, rfl, h⟩
theorem sg_X7_keepAhead_43 {T : Th} {M : Mm} {Q : Int32 → Mm → Prop} {x0 : Nat} {x1 : Int32} {x2 : Int32} {x3 : Int32} {x4 : Int32} {x5 : Int32} (h0 : isX7 T x0)
    (h : (x5 < 0 → Q (-9) M) ∧ (¬ x5 < 0 → WPv T mX7_findOdds [.ref x0, .int x1, .int x2, .int x3, .int x5] M (fun M1 => ((lg_cmp (10 * (M1.2.1 x0 37)) (x4.toInt64 * (M1.2.1 x0 38))) < 0 → ∀ v2 : Int32, v2 = x5 + (-1) → WP T mX7_keepAhead 43 [(0, .ref x0), (1, .int x1), (2, .int x2), (3, .int x3), (4, .int x4), (5, .int v2)] [] M1 (qi Q)) ∧ (¬ (lg_cmp (10 * (M1.2.1 x0 37)) (x4.toInt64 * (M1.2.1 x0 38))) < 0 → Q x5 M1)))) :
    WP T mX7_keepAhead 43 [(0, .ref x0), (1, .int x1), (2, .int x2), (3, .int x3), (4, .int x4), (5, .int x5)] [] M (qi Q) := by
  refine WP.iload 5 (dg tX7_keepAhead 25 rfl) rfl ?_
  refine WP.if_lt (tgt := 86) (dg tX7_keepAhead 26 rfl) (by decide) (fun z => ?_) (fun z => ?_)
  · replace h := h.1 z
    refine WP.bipush (v := (-9)) (dg tX7_keepAhead 48 rfl) (by decide) ?_
    exact WP.iret rfl (dg tX7_keepAhead 49 rfl) ⟨_, rfl, h⟩
  · replace h := h.2 z
    refine WP.aload_n 0 (dg tX7_keepAhead 27 rfl) rfl rfl ?_
    refine WP.iload_n 1 (dg tX7_keepAhead 28 rfl) rfl rfl ?_
    refine WP.iload_n 2 (dg tX7_keepAhead 29 rfl) rfl rfl ?_
    refine WP.iload_n 3 (dg tX7_keepAhead 30 rfl) rfl rfl ?_
    refine WP.iload 5 (dg tX7_keepAhead 31 rfl) rfl ?_
    refine WP.callVv (As := [.int x1, .int x2, .int x3, .int x5]) (st := []) vX7_235 h0.1 rfl rfl ⟨Nat.le_of_ble_eq_true rfl, Nat.le_of_ble_eq_true rfl⟩ (Nat.le_of_ble_eq_true rfl) rfl (dg tX7_keepAhead 32 rfl) h (fun M1 h => ?_)
    refine WP.ldc2 (v := 10) kX7_223 (dg tX7_keepAhead 33 rfl) ?_
    refine WP.aload_n 0 (dg tX7_keepAhead 34 rfl) rfl rfl ?_
    refine WP.getL fX7_225 h0.1 (dg tX7_keepAhead 35 rfl) ?_
    refine WP.lmul (dg tX7_keepAhead 36 rfl) ?_
    refine WP.iload 4 (dg tX7_keepAhead 37 rfl) rfl ?_
    refine WP.i2l (dg tX7_keepAhead 38 rfl) ?_
    refine WP.aload_n 0 (dg tX7_keepAhead 39 rfl) rfl rfl ?_
    refine WP.getL fX7_219 h0.1 (dg tX7_keepAhead 40 rfl) ?_
    refine WP.lmul (dg tX7_keepAhead 41 rfl) ?_
    refine WP.lcmp (dg tX7_keepAhead 42 rfl) ?_
    refine WP.if_lt (tgt := 80) (dg tX7_keepAhead 43 rfl) (by decide) (fun z => ?_) (fun z => ?_)
    · replace h := h.1 z
      obtain ⟨v2, e_v2⟩ : ∃ y : Int32, y = x5 + (-1) := ⟨_, rfl⟩
      have h := h v2 e_v2
      refine WP.iinc (v := v2) (L2 := [(5, .int v2), (0, .ref x0), (1, .int x1), (2, .int x2), (3, .int x3), (4, .int x4)]) 5 (dg tX7_keepAhead 46 rfl) rfl (by rw [e_v2]; rfl) (by decide) rfl ?_
      refine WP.goto (tgt := 43) (dg tX7_keepAhead 47 rfl) (by decide) ?_
      refine WP.sub [1, 2, 3, 4, 5, 0] rfl ?_
      exact h
    · replace h := h.2 z
      refine WP.iload 5 (dg tX7_keepAhead 44 rfl) rfl ?_
      exact WP.iret rfl (dg tX7_keepAhead 45 rfl) ⟨_, rfl, h⟩
theorem sg_X7_mark_0 {T : Th} {M : Mm} {Q : Int32 → Mm → Prop} {x0 : Nat} {x1 : Int32} {x2 : Int32} (h0 : isX7 T x0)
    (h : WPi T mX7_in [.int x1, .int 0, .int 5] M (fun v2 M1 => (v2 = 0 → Q (-1000000) M1) ∧ (¬ v2 = 0 → WPi T mX7_isWagon [.ref x0, .int x2] M1 (fun v4 M3 => (¬ v4 = 0 → vp_in (1 + x2) 1026 ∧ (∀ v5 : Int32, v5 = M3.1 (x0 + 17) (1 + x2).toNatClampNeg → (x1 = 0 → ∀ M6 : Mm, M6 = sL M3 x0 0 ((M3.2.1 x0 0) + 1) → Q v5 M6) ∧ (x1 = 1 → ∀ M6 : Mm, M6 = sL M3 x0 0 ((M3.2.1 x0 0) + 11) → vp_in (16 + x2) 1026 ∧ (Q (v5 + (M6.1 (x0 + 17) (16 + x2).toNatClampNeg)) M6)) ∧ (x1 = 2 → ∀ M6 : Mm, M6 = sL M3 x0 0 ((M3.2.1 x0 0) + 101) → vp_in x2 5 ∧ (Q (v5 - (M6.1 (x0 + 16) x2.toNatClampNeg)) M6)) ∧ (x1 = 3 → ∀ M6 : Mm, M6 = sL M3 x0 0 ((M3.2.1 x0 0) + 1011) → vp_in (16 + x2) 1026 ∧ (Q (2 * (v5 + (M6.1 (x0 + 17) (16 + x2).toNatClampNeg))) M6)) ∧ (x1 = 4 → ∀ M6 : Mm, M6 = sL M3 x0 0 ((M3.2.1 x0 0) + 10101) → vp_in x2 5 ∧ (vp_in (26 + x2) 1026 ∧ (Q ((v5 - (M6.1 (x0 + 16) x2.toNatClampNeg)) + (M6.1 (x0 + 17) (26 + x2).toNatClampNeg)) M6))) ∧ (¬ x1 = 0 ∧ ¬ x1 = 1 ∧ ¬ x1 = 2 ∧ ¬ x1 = 3 ∧ ¬ x1 = 4 → ∀ M6 : Mm, M6 = sL M3 x0 0 ((M3.2.1 x0 0) + 100001) → WPi T mX7_sunAt [.ref x0, .int (M6.1 (x0 + 17) 0)] M6 (fun v8 M7 => Q ((v5 + v5) - v8) M7)))) ∧ (v4 = 0 → Q (-1000000) M3))))) :
    WP T mX7_mark 0 [(0, .ref x0), (1, .int x1), (2, .int x2)] [] M (qi Q) := by
  refine WP.iload_n 1 (dg tX7_mark 0 rfl) rfl rfl ?_
  refine WP.iconst (v := 0) (dg tX7_mark 1 rfl) (by decide) ?_
  refine WP.iconst (v := 5) (dg tX7_mark 2 rfl) (by decide) ?_
  refine WP.callSi (As := [.int x1, .int 0, .int 5]) (st := []) vX7_88 rfl ⟨Nat.le_of_ble_eq_true rfl, Nat.le_of_ble_eq_true rfl⟩ (Nat.le_of_ble_eq_true rfl) rfl (dg tX7_mark 3 rfl) h (fun v2 M1 h => ?_)
  refine WP.if_eq (tgt := 17) (dg tX7_mark 4 rfl) (by decide) (fun z => ?_) (fun z => ?_)
  · replace h := h.1 z
    refine WP.ldc (v := (-1000000)) kX7_176 (dg tX7_mark 9 rfl) ?_
    exact WP.iret rfl (dg tX7_mark 10 rfl) ⟨_, rfl, h⟩
  · replace h := h.2 z
    refine WP.aload_n 0 (dg tX7_mark 5 rfl) rfl rfl ?_
    refine WP.iload_n 2 (dg tX7_mark 6 rfl) rfl rfl ?_
    refine WP.callVi (As := [.int x2]) (st := []) vX7_170 h0.1 rfl rfl ⟨Nat.le_of_ble_eq_true rfl, Nat.le_of_ble_eq_true rfl⟩ (Nat.le_of_ble_eq_true rfl) rfl (dg tX7_mark 7 rfl) h (fun v4 M3 h => ?_)
    refine WP.if_ne (tgt := 20) (dg tX7_mark 8 rfl) (by decide) (fun z => ?_) (fun z => ?_)
    · replace h := h.1 z
      refine WP.aload_n 0 (dg tX7_mark 11 rfl) rfl rfl ?_
      refine WP.getF fX7_59 h0.1 (dg tX7_mark 12 rfl) ?_
      refine WP.iconst (v := 1) (dg tX7_mark 13 rfl) (by decide) ?_
      refine WP.iload_n 2 (dg tX7_mark 14 rfl) rfl rfl ?_
      refine WP.iadd (dg tX7_mark 15 rfl) ?_
      obtain ⟨hb27, h⟩ := h
      refine WP.iald h0.2.2.2.2.2.2.2.2.2.2.2.2.2.2.2.2.2.1 hb27 (dg tX7_mark 16 rfl) ?_
      refine WP.topi (fun v5 e_v5 => ?_)
      have h := h v5 e_v5
      refine WP.istore_n (L2 := [(3, .int v5), (0, .ref x0), (1, .int x1), (2, .int x2)]) (dg tX7_mark 17 rfl) rfl (by decide) rfl ?_
      refine WP.iload_n 2 (dg tX7_mark 18 rfl) rfl rfl ?_
      rcases tabcase x1 0 5 with hq | ⟨k, hk, hq⟩
      · replace h := h.2.2.2.2.2 ⟨fun e => by rw [e] at hq; revert hq; decide, fun e => by rw [e] at hq; revert hq; decide, fun e => by rw [e] at hq; revert hq; decide, fun e => by rw [e] at hq; revert hq; decide, fun e => by rw [e] at hq; revert hq; decide⟩
        refine WP.tabOut (tgt := 178) (dg tX7_mark 19 rfl) (by rcases hq with hq | hq <;> omega) (by decide) ?_
        refine WP.aload_n 1 (dg tX7_mark 93 rfl) rfl rfl ?_
        refine WP.dup (dg tX7_mark 94 rfl) rfl ?_
        refine WP.getL fX7_239 h0.1 (dg tX7_mark 95 rfl) ?_
        refine WP.ldc2 (v := 100001) kX7_250 (dg tX7_mark 96 rfl) ?_
        refine WP.ladd (dg tX7_mark 97 rfl) ?_
        refine WP.putL fX7_239 h0.1 (dg tX7_mark 98 rfl) (fun M6 e_M6 => ?_)
        have h := h M6 e_M6
        refine WP.iload_n 0 (dg tX7_mark 99 rfl) rfl rfl ?_
        refine WP.iload_n 0 (dg tX7_mark 100 rfl) rfl rfl ?_
        refine WP.iadd (dg tX7_mark 101 rfl) ?_
        refine WP.aload_n 1 (dg tX7_mark 102 rfl) rfl rfl ?_
        refine WP.aload_n 1 (dg tX7_mark 103 rfl) rfl rfl ?_
        refine WP.getF fX7_59 h0.1 (dg tX7_mark 104 rfl) ?_
        refine WP.iconst (v := 0) (dg tX7_mark 105 rfl) (by decide) ?_
        refine WP.ialdc (k := 0) h0.2.2.2.2.2.2.2.2.2.2.2.2.2.2.2.2.2.1 (by decide) (by decide) (dg tX7_mark 106 rfl) ?_
        refine WP.callVi (As := [.int (M6.1 (x0 + 17) 0)]) (st := [.int (v5 + v5)]) vX7_173 h0.1 rfl rfl ⟨Nat.le_of_ble_eq_true rfl, Nat.le_of_ble_eq_true rfl⟩ (Nat.le_of_ble_eq_true rfl) rfl (dg tX7_mark 107 rfl) h (fun v8 M7 h => ?_)
        refine WP.isub (dg tX7_mark 108 rfl) ?_
        exact WP.iret rfl (dg tX7_mark 109 rfl) ⟨_, rfl, h⟩
      · rcases (show k = 0 ∨ k = 1 ∨ k = 2 ∨ k = 3 ∨ k = 4 by omega) with rfl | rfl | rfl | rfl | rfl
        · have he : x1 = 0 := Int32.toInt_inj.mp (by rw [hq]; rfl)
          replace h := h.1 (he)
          refine WP.tabIn (off := 34) (tgt := 64) (dg tX7_mark 19 rfl) (by omega) (by omega) (by rw [hq]; rfl) (by decide) ?_
          refine WP.aload_n 1 (dg tX7_mark 20 rfl) rfl rfl ?_
          refine WP.dup (dg tX7_mark 21 rfl) rfl ?_
          refine WP.getL fX7_239 h0.1 (dg tX7_mark 22 rfl) ?_
          refine WP.lconst (v := 1) (dg tX7_mark 23 rfl) (by decide) ?_
          refine WP.ladd (dg tX7_mark 24 rfl) ?_
          refine WP.putL fX7_239 h0.1 (dg tX7_mark 25 rfl) (fun M6 e_M6 => ?_)
          have h := h M6 e_M6
          refine WP.iload_n 0 (dg tX7_mark 26 rfl) rfl rfl ?_
          exact WP.iret rfl (dg tX7_mark 27 rfl) ⟨_, rfl, h⟩
        · have he : x1 = 1 := Int32.toInt_inj.mp (by rw [hq]; rfl)
          replace h := h.2.1 (he)
          refine WP.tabIn (off := 46) (tgt := 76) (dg tX7_mark 19 rfl) (by omega) (by omega) (by rw [hq]; rfl) (by decide) ?_
          refine WP.aload_n 1 (dg tX7_mark 28 rfl) rfl rfl ?_
          refine WP.dup (dg tX7_mark 29 rfl) rfl ?_
          refine WP.getL fX7_239 h0.1 (dg tX7_mark 30 rfl) ?_
          refine WP.ldc2 (v := 11) kX7_242 (dg tX7_mark 31 rfl) ?_
          refine WP.ladd (dg tX7_mark 32 rfl) ?_
          refine WP.putL fX7_239 h0.1 (dg tX7_mark 33 rfl) (fun M6 e_M6 => ?_)
          have h := h M6 e_M6
          refine WP.iload_n 0 (dg tX7_mark 34 rfl) rfl rfl ?_
          refine WP.aload_n 1 (dg tX7_mark 35 rfl) rfl rfl ?_
          refine WP.getF fX7_59 h0.1 (dg tX7_mark 36 rfl) ?_
          refine WP.bipush (v := 16) (dg tX7_mark 37 rfl) (by decide) ?_
          refine WP.iload_n 3 (dg tX7_mark 38 rfl) rfl rfl ?_
          refine WP.iadd (dg tX7_mark 39 rfl) ?_
          obtain ⟨hb97, h⟩ := h
          refine WP.iald h0.2.2.2.2.2.2.2.2.2.2.2.2.2.2.2.2.2.1 hb97 (dg tX7_mark 40 rfl) ?_
          refine WP.iadd (dg tX7_mark 41 rfl) ?_
          exact WP.iret rfl (dg tX7_mark 42 rfl) ⟨_, rfl, h⟩
        · have he : x1 = 2 := Int32.toInt_inj.mp (by rw [hq]; rfl)
          replace h := h.2.2.1 (he)
          refine WP.tabIn (off := 70) (tgt := 100) (dg tX7_mark 19 rfl) (by omega) (by omega) (by rw [hq]; rfl) (by decide) ?_
          refine WP.aload_n 1 (dg tX7_mark 43 rfl) rfl rfl ?_
          refine WP.dup (dg tX7_mark 44 rfl) rfl ?_
          refine WP.getL fX7_239 h0.1 (dg tX7_mark 45 rfl) ?_
          refine WP.ldc2 (v := 101) kX7_244 (dg tX7_mark 46 rfl) ?_
          refine WP.ladd (dg tX7_mark 47 rfl) ?_
          refine WP.putL fX7_239 h0.1 (dg tX7_mark 48 rfl) (fun M6 e_M6 => ?_)
          have h := h M6 e_M6
          refine WP.iload_n 0 (dg tX7_mark 49 rfl) rfl rfl ?_
          refine WP.aload_n 1 (dg tX7_mark 50 rfl) rfl rfl ?_
          refine WP.getF fX7_56 h0.1 (dg tX7_mark 51 rfl) ?_
          refine WP.iload_n 3 (dg tX7_mark 52 rfl) rfl rfl ?_
          obtain ⟨hb118, h⟩ := h
          refine WP.iald h0.2.2.2.2.2.2.2.2.2.2.2.2.2.2.2.2.1 hb118 (dg tX7_mark 53 rfl) ?_
          refine WP.isub (dg tX7_mark 54 rfl) ?_
          exact WP.iret rfl (dg tX7_mark 55 rfl) ⟨_, rfl, h⟩
        · have he : x1 = 3 := Int32.toInt_inj.mp (by rw [hq]; rfl)
          replace h := h.2.2.2.1 (he)
          refine WP.tabIn (off := 91) (tgt := 121) (dg tX7_mark 19 rfl) (by omega) (by omega) (by rw [hq]; rfl) (by decide) ?_
          refine WP.aload_n 1 (dg tX7_mark 56 rfl) rfl rfl ?_
          refine WP.dup (dg tX7_mark 57 rfl) rfl ?_
          refine WP.getL fX7_239 h0.1 (dg tX7_mark 58 rfl) ?_
          refine WP.ldc2 (v := 1011) kX7_246 (dg tX7_mark 59 rfl) ?_
          refine WP.ladd (dg tX7_mark 60 rfl) ?_
          refine WP.putL fX7_239 h0.1 (dg tX7_mark 61 rfl) (fun M6 e_M6 => ?_)
          have h := h M6 e_M6
          refine WP.iconst (v := 2) (dg tX7_mark 62 rfl) (by decide) ?_
          refine WP.iload_n 0 (dg tX7_mark 63 rfl) rfl rfl ?_
          refine WP.aload_n 1 (dg tX7_mark 64 rfl) rfl rfl ?_
          refine WP.getF fX7_59 h0.1 (dg tX7_mark 65 rfl) ?_
          refine WP.bipush (v := 16) (dg tX7_mark 66 rfl) (by decide) ?_
          refine WP.iload_n 3 (dg tX7_mark 67 rfl) rfl rfl ?_
          refine WP.iadd (dg tX7_mark 68 rfl) ?_
          obtain ⟨hb143, h⟩ := h
          refine WP.iald h0.2.2.2.2.2.2.2.2.2.2.2.2.2.2.2.2.2.1 hb143 (dg tX7_mark 69 rfl) ?_
          refine WP.iadd (dg tX7_mark 70 rfl) ?_
          refine WP.imul (dg tX7_mark 71 rfl) ?_
          exact WP.iret rfl (dg tX7_mark 72 rfl) ⟨_, rfl, h⟩
        · have he : x1 = 4 := Int32.toInt_inj.mp (by rw [hq]; rfl)
          replace h := h.2.2.2.2.1 (he)
          refine WP.tabIn (off := 117) (tgt := 147) (dg tX7_mark 19 rfl) (by omega) (by omega) (by rw [hq]; rfl) (by decide) ?_
          refine WP.aload_n 1 (dg tX7_mark 73 rfl) rfl rfl ?_
          refine WP.dup (dg tX7_mark 74 rfl) rfl ?_
          refine WP.getL fX7_239 h0.1 (dg tX7_mark 75 rfl) ?_
          refine WP.ldc2 (v := 10101) kX7_248 (dg tX7_mark 76 rfl) ?_
          refine WP.ladd (dg tX7_mark 77 rfl) ?_
          refine WP.putL fX7_239 h0.1 (dg tX7_mark 78 rfl) (fun M6 e_M6 => ?_)
          have h := h M6 e_M6
          refine WP.iload_n 0 (dg tX7_mark 79 rfl) rfl rfl ?_
          refine WP.aload_n 1 (dg tX7_mark 80 rfl) rfl rfl ?_
          refine WP.getF fX7_56 h0.1 (dg tX7_mark 81 rfl) ?_
          refine WP.iload_n 3 (dg tX7_mark 82 rfl) rfl rfl ?_
          obtain ⟨hb165, h⟩ := h
          refine WP.iald h0.2.2.2.2.2.2.2.2.2.2.2.2.2.2.2.2.1 hb165 (dg tX7_mark 83 rfl) ?_
          refine WP.isub (dg tX7_mark 84 rfl) ?_
          refine WP.aload_n 1 (dg tX7_mark 85 rfl) rfl rfl ?_
          refine WP.getF fX7_59 h0.1 (dg tX7_mark 86 rfl) ?_
          refine WP.bipush (v := 26) (dg tX7_mark 87 rfl) (by decide) ?_
          refine WP.iload_n 3 (dg tX7_mark 88 rfl) rfl rfl ?_
          refine WP.iadd (dg tX7_mark 89 rfl) ?_
          obtain ⟨hb175, h⟩ := h
          refine WP.iald h0.2.2.2.2.2.2.2.2.2.2.2.2.2.2.2.2.2.1 hb175 (dg tX7_mark 90 rfl) ?_
          refine WP.iadd (dg tX7_mark 91 rfl) ?_
          exact WP.iret rfl (dg tX7_mark 92 rfl) ⟨_, rfl, h⟩
    · replace h := h.2 z
      refine WP.ldc (v := (-1000000)) kX7_176 (dg tX7_mark 9 rfl) ?_
      exact WP.iret rfl (dg tX7_mark 10 rfl) ⟨_, rfl, h⟩
theorem sg_X7_copy_0 {T : Th} {M : Mm} {Q : Mm → Prop} {x0 : Nat} {x1 : Int32} {x2 : Int32} (h0 : isX7 T x0)
    (h : WP T mX7_copy 2 [(0, .ref x0), (1, .int x1), (2, .int x2), (3, .int 0)] [] M (qv Q)) :
    WP T mX7_copy 0 [(0, .ref x0), (1, .int x1), (2, .int x2)] [] M (qv Q) := by
  refine WP.iconst (v := 0) (dg tX7_copy 0 rfl) (by decide) ?_
  refine WP.istore_n (L2 := [(3, .int 0), (0, .ref x0), (1, .int x1), (2, .int x2)]) (dg tX7_copy 1 rfl) rfl (by decide) rfl ?_
  refine WP.sub [1, 2, 3, 0] rfl ?_
  exact h
theorem sg_X7_copy_2 {T : Th} {M : Mm} {Q : Mm → Prop} {x0 : Nat} {x1 : Int32} {x2 : Int32} {x3 : Int32} (h0 : isX7 T x0)
    (h : (342 ≤ x3 → Q M) ∧ (¬ 342 ≤ x3 → vp_in (x1 + x3) 1026 ∧ (vp_in (x2 + x3) 1026 ∧ (∀ M1 : Mm, M1 = sI M (x0 + 17) (x2 + x3).toNatClampNeg (M.1 (x0 + 17) (x1 + x3).toNatClampNeg) → ∀ v2 : Int32, v2 = x3 + 1 → WP T mX7_copy 2 [(0, .ref x0), (1, .int x1), (2, .int x2), (3, .int v2)] [] M1 (qv Q))))) :
    WP T mX7_copy 2 [(0, .ref x0), (1, .int x1), (2, .int x2), (3, .int x3)] [] M (qv Q) := by
  refine WP.iload_n 3 (dg tX7_copy 2 rfl) rfl rfl ?_
  refine WP.sipush (v := 342) (dg tX7_copy 3 rfl) (by decide) ?_
  refine WP.icmp_ge (tgt := 31) (dg tX7_copy 4 rfl) (by decide) (fun z => ?_) (fun z => ?_)
  · replace h := h.1 z
    exact WP.vret rfl (dg tX7_copy 19 rfl) ⟨rfl, h⟩
  · replace h := h.2 z
    refine WP.aload_n 0 (dg tX7_copy 5 rfl) rfl rfl ?_
    refine WP.getF fX7_59 h0.1 (dg tX7_copy 6 rfl) ?_
    refine WP.iload_n 2 (dg tX7_copy 7 rfl) rfl rfl ?_
    refine WP.iload_n 3 (dg tX7_copy 8 rfl) rfl rfl ?_
    refine WP.iadd (dg tX7_copy 9 rfl) ?_
    refine WP.aload_n 0 (dg tX7_copy 10 rfl) rfl rfl ?_
    refine WP.getF fX7_59 h0.1 (dg tX7_copy 11 rfl) ?_
    refine WP.iload_n 1 (dg tX7_copy 12 rfl) rfl rfl ?_
    refine WP.iload_n 3 (dg tX7_copy 13 rfl) rfl rfl ?_
    refine WP.iadd (dg tX7_copy 14 rfl) ?_
    obtain ⟨hb23, h⟩ := h
    refine WP.iald h0.2.2.2.2.2.2.2.2.2.2.2.2.2.2.2.2.2.1 hb23 (dg tX7_copy 15 rfl) ?_
    obtain ⟨hb24, h⟩ := h
    refine WP.iast h0.2.2.2.2.2.2.2.2.2.2.2.2.2.2.2.2.2.1 hb24 (dg tX7_copy 16 rfl) (fun M1 e_M1 => ?_)
    have h := h M1 e_M1
    obtain ⟨v2, e_v2⟩ : ∃ y : Int32, y = x3 + 1 := ⟨_, rfl⟩
    have h := h v2 e_v2
    refine WP.iinc (v := v2) (L2 := [(3, .int v2), (0, .ref x0), (1, .int x1), (2, .int x2)]) 3 (dg tX7_copy 17 rfl) rfl (by rw [e_v2]; rfl) (by decide) rfl ?_
    refine WP.goto (tgt := 2) (dg tX7_copy 18 rfl) (by decide) ?_
    refine WP.sub [1, 2, 3, 0] rfl ?_
    exact h
theorem sg_X7_keep_0 {T : Th} {M : Mm} {Q : Int32 → Mm → Prop} {x0 : Nat} {x1 : Int32} (h0 : isX7 T x0)
    (h : WPi T mX7_in [.int x1, .int 0, .int 1] M (fun v2 M1 => (¬ v2 = 0 → WPv T mX7_copy [.ref x0, .int 0, .int (342 * (1 + x1))] M1 (fun M3 => vp_in x1 2 ∧ (∀ M4 : Mm, M4 = sI M3 (x0 + 19) x1.toNatClampNeg (vp_nar .boolean 1) → Q (M4.1 (x0 + 17) 0) M4))) ∧ (v2 = 0 → Q (-1) M1))) :
    WP T mX7_keep 0 [(0, .ref x0), (1, .int x1)] [] M (qi Q) := by
  refine WP.iload_n 1 (dg tX7_keep 0 rfl) rfl rfl ?_
  refine WP.iconst (v := 0) (dg tX7_keep 1 rfl) (by decide) ?_
  refine WP.iconst (v := 1) (dg tX7_keep 2 rfl) (by decide) ?_
  refine WP.callSi (As := [.int x1, .int 0, .int 1]) (st := []) vX7_88 rfl ⟨Nat.le_of_ble_eq_true rfl, Nat.le_of_ble_eq_true rfl⟩ (Nat.le_of_ble_eq_true rfl) rfl (dg tX7_keep 3 rfl) h (fun v2 M1 h => ?_)
  refine WP.if_ne (tgt := 11) (dg tX7_keep 4 rfl) (by decide) (fun z => ?_) (fun z => ?_)
  · replace h := h.1 z
    refine WP.aload_n 0 (dg tX7_keep 7 rfl) rfl rfl ?_
    refine WP.iconst (v := 0) (dg tX7_keep 8 rfl) (by decide) ?_
    refine WP.sipush (v := 342) (dg tX7_keep 9 rfl) (by decide) ?_
    refine WP.iconst (v := 1) (dg tX7_keep 10 rfl) (by decide) ?_
    refine WP.iload_n 1 (dg tX7_keep 11 rfl) rfl rfl ?_
    refine WP.iadd (dg tX7_keep 12 rfl) ?_
    refine WP.imul (dg tX7_keep 13 rfl) ?_
    refine WP.callVv (As := [.int 0, .int (342 * (1 + x1))]) (st := []) vX7_252 h0.1 rfl rfl ⟨Nat.le_of_ble_eq_true rfl, Nat.le_of_ble_eq_true rfl⟩ (Nat.le_of_ble_eq_true rfl) rfl (dg tX7_keep 14 rfl) h (fun M3 h => ?_)
    refine WP.aload_n 0 (dg tX7_keep 15 rfl) rfl rfl ?_
    refine WP.getF fX7_65 h0.1 (dg tX7_keep 16 rfl) ?_
    refine WP.iload_n 1 (dg tX7_keep 17 rfl) rfl rfl ?_
    refine WP.iconst (v := 1) (dg tX7_keep 18 rfl) (by decide) ?_
    obtain ⟨hb29, h⟩ := h
    refine WP.zast h0.2.2.2.2.2.2.2.2.2.2.2.2.2.2.2.2.2.2.2.1 hb29 (dg tX7_keep 19 rfl) (fun M4 e_M4 => ?_)
    have h := h M4 e_M4
    refine WP.aload_n 0 (dg tX7_keep 20 rfl) rfl rfl ?_
    refine WP.getF fX7_59 h0.1 (dg tX7_keep 21 rfl) ?_
    refine WP.iconst (v := 0) (dg tX7_keep 22 rfl) (by decide) ?_
    refine WP.ialdc (k := 0) h0.2.2.2.2.2.2.2.2.2.2.2.2.2.2.2.2.2.1 (by decide) (by decide) (dg tX7_keep 23 rfl) ?_
    exact WP.iret rfl (dg tX7_keep 24 rfl) ⟨_, rfl, h⟩
  · replace h := h.2 z
    refine WP.iconst (v := (-1)) (dg tX7_keep 5 rfl) (by decide) ?_
    exact WP.iret rfl (dg tX7_keep 6 rfl) ⟨_, rfl, h⟩
theorem sg_X7_back_0 {T : Th} {M : Mm} {Q : Int32 → Mm → Prop} {x0 : Nat} {x1 : Int32} (h0 : isX7 T x0)
    (h : WPi T mX7_in [.int x1, .int 0, .int 1] M (fun v2 M1 => (¬ v2 = 0 → vp_in x1 2 ∧ ((¬ (M1.1 (x0 + 19) x1.toNatClampNeg) = 0 → WPv T mX7_copy [.ref x0, .int (342 * (1 + x1)), .int 0] M1 (fun M3 => Q (M3.1 (x0 + 17) 0) M3)) ∧ ((M1.1 (x0 + 19) x1.toNatClampNeg) = 0 → Q (-2) M1))) ∧ (v2 = 0 → Q (-1) M1))) :
    WP T mX7_back 0 [(0, .ref x0), (1, .int x1)] [] M (qi Q) := by
  refine WP.iload_n 1 (dg tX7_back 0 rfl) rfl rfl ?_
  refine WP.iconst (v := 0) (dg tX7_back 1 rfl) (by decide) ?_
  refine WP.iconst (v := 1) (dg tX7_back 2 rfl) (by decide) ?_
  refine WP.callSi (As := [.int x1, .int 0, .int 1]) (st := []) vX7_88 rfl ⟨Nat.le_of_ble_eq_true rfl, Nat.le_of_ble_eq_true rfl⟩ (Nat.le_of_ble_eq_true rfl) rfl (dg tX7_back 3 rfl) h (fun v2 M1 h => ?_)
  refine WP.if_ne (tgt := 11) (dg tX7_back 4 rfl) (by decide) (fun z => ?_) (fun z => ?_)
  · replace h := h.1 z
    refine WP.aload_n 0 (dg tX7_back 7 rfl) rfl rfl ?_
    refine WP.getF fX7_65 h0.1 (dg tX7_back 8 rfl) ?_
    refine WP.iload_n 1 (dg tX7_back 9 rfl) rfl rfl ?_
    obtain ⟨hb16, h⟩ := h
    refine WP.zald h0.2.2.2.2.2.2.2.2.2.2.2.2.2.2.2.2.2.2.2.1 hb16 (dg tX7_back 10 rfl) ?_
    refine WP.if_ne (tgt := 23) (dg tX7_back 11 rfl) (by decide) (fun z => ?_) (fun z => ?_)
    · replace h := h.1 z
      refine WP.aload_n 0 (dg tX7_back 14 rfl) rfl rfl ?_
      refine WP.sipush (v := 342) (dg tX7_back 15 rfl) (by decide) ?_
      refine WP.iconst (v := 1) (dg tX7_back 16 rfl) (by decide) ?_
      refine WP.iload_n 1 (dg tX7_back 17 rfl) rfl rfl ?_
      refine WP.iadd (dg tX7_back 18 rfl) ?_
      refine WP.imul (dg tX7_back 19 rfl) ?_
      refine WP.iconst (v := 0) (dg tX7_back 20 rfl) (by decide) ?_
      refine WP.callVv (As := [.int (342 * (1 + x1)), .int 0]) (st := []) vX7_252 h0.1 rfl rfl ⟨Nat.le_of_ble_eq_true rfl, Nat.le_of_ble_eq_true rfl⟩ (Nat.le_of_ble_eq_true rfl) rfl (dg tX7_back 21 rfl) h (fun M3 h => ?_)
      refine WP.aload_n 0 (dg tX7_back 22 rfl) rfl rfl ?_
      refine WP.getF fX7_59 h0.1 (dg tX7_back 23 rfl) ?_
      refine WP.iconst (v := 0) (dg tX7_back 24 rfl) (by decide) ?_
      refine WP.ialdc (k := 0) h0.2.2.2.2.2.2.2.2.2.2.2.2.2.2.2.2.2.1 (by decide) (by decide) (dg tX7_back 25 rfl) ?_
      exact WP.iret rfl (dg tX7_back 26 rfl) ⟨_, rfl, h⟩
    · replace h := h.2 z
      refine WP.bipush (v := (-2)) (dg tX7_back 12 rfl) (by decide) ?_
      exact WP.iret rfl (dg tX7_back 13 rfl) ⟨_, rfl, h⟩
  · replace h := h.2 z
    refine WP.iconst (v := (-1)) (dg tX7_back 5 rfl) (by decide) ?_
    exact WP.iret rfl (dg tX7_back 6 rfl) ⟨_, rfl, h⟩
theorem sg_X7_count_0 {T : Th} {M : Mm} {Q : Int32 → Mm → Prop} {x0 : Nat} {x1 : Int32} (h0 : isX7 T x0)
    (h : WP T mX7_count 4 [(0, .ref x0), (1, .int x1), (2, .int 0), (3, .int 0)] [] M (qi Q)) :
    WP T mX7_count 0 [(0, .ref x0), (1, .int x1)] [] M (qi Q) := by
  refine WP.iconst (v := 0) (dg tX7_count 0 rfl) (by decide) ?_
  refine WP.istore_n (L2 := [(2, .int 0), (0, .ref x0), (1, .int x1)]) (dg tX7_count 1 rfl) rfl (by decide) rfl ?_
  refine WP.iconst (v := 0) (dg tX7_count 2 rfl) (by decide) ?_
  refine WP.istore_n (L2 := [(3, .int 0), (2, .int 0), (0, .ref x0), (1, .int x1)]) (dg tX7_count 3 rfl) rfl (by decide) rfl ?_
  refine WP.sub [2, 3, 1, 0] rfl ?_
  exact h
theorem sg_X7_count_4 {T : Th} {M : Mm} {Q : Int32 → Mm → Prop} {x0 : Nat} {x1 : Int32} {x2 : Int32} {x3 : Int32} (h0 : isX7 T x0)
    (h : (12 ≤ x3 → (x1 = 0 → Q (M.1 (x0 + 7) 0) M) ∧ (x1 = 1 → Q (M.1 (x0 + 8) 0) M) ∧ (x1 = 2 → Q x2 M) ∧ (x1 = 3 → Q (M.1 (x0 + 17) 31) M) ∧ (x1 = 4 → Q (M.1 x0 2) M) ∧ (¬ x1 = 0 ∧ ¬ x1 = 1 ∧ ¬ x1 = 2 ∧ ¬ x1 = 3 ∧ ¬ x1 = 4 → Q (-1) M)) ∧ (¬ 12 ≤ x3 → ∀ v1 : Int32, v1 = x2 + (((M.1 (x0 + 6) 0) >>> (x3 &&& 31)) &&& 1) → ∀ v2 : Int32, v2 = x3 + 1 → WP T mX7_count 4 [(0, .ref x0), (1, .int x1), (2, .int v1), (3, .int v2)] [] M (qi Q))) :
    WP T mX7_count 4 [(0, .ref x0), (1, .int x1), (2, .int x2), (3, .int x3)] [] M (qi Q) := by
  refine WP.iload_n 3 (dg tX7_count 4 rfl) rfl rfl ?_
  refine WP.bipush (v := 12) (dg tX7_count 5 rfl) (by decide) ?_
  refine WP.icmp_ge (tgt := 29) (dg tX7_count 6 rfl) (by decide) (fun z => ?_) (fun z => ?_)
  · replace h := h.1 z
    refine WP.iload_n 1 (dg tX7_count 20 rfl) rfl rfl ?_
    rcases tabcase x1 0 5 with hq | ⟨k, hk, hq⟩
    · replace h := h.2.2.2.2.2 ⟨fun e => by rw [e] at hq; revert hq; decide, fun e => by rw [e] at hq; revert hq; decide, fun e => by rw [e] at hq; revert hq; decide, fun e => by rw [e] at hq; revert hq; decide, fun e => by rw [e] at hq; revert hq; decide⟩
      refine WP.tabOut (tgt := 93) (dg tX7_count 21 rfl) (by rcases hq with hq | hq <;> omega) (by decide) ?_
      refine WP.iconst (v := (-1)) (dg tX7_count 42 rfl) (by decide) ?_
      exact WP.iret rfl (dg tX7_count 43 rfl) ⟨_, rfl, h⟩
    · rcases (show k = 0 ∨ k = 1 ∨ k = 2 ∨ k = 3 ∨ k = 4 by omega) with rfl | rfl | rfl | rfl | rfl
      · have he : x1 = 0 := Int32.toInt_inj.mp (by rw [hq]; rfl)
        replace h := h.1 (he)
        refine WP.tabIn (off := 34) (tgt := 64) (dg tX7_count 21 rfl) (by omega) (by omega) (by rw [hq]; rfl) (by decide) ?_
        refine WP.aload_n 0 (dg tX7_count 22 rfl) rfl rfl ?_
        refine WP.getF fX7_29 h0.1 (dg tX7_count 23 rfl) ?_
        refine WP.iconst (v := 0) (dg tX7_count 24 rfl) (by decide) ?_
        refine WP.ialdc (k := 0) h0.2.2.2.2.2.2.2.1 (by decide) (by decide) (dg tX7_count 25 rfl) ?_
        exact WP.iret rfl (dg tX7_count 26 rfl) ⟨_, rfl, h⟩
      · have he : x1 = 1 := Int32.toInt_inj.mp (by rw [hq]; rfl)
        replace h := h.2.1 (he)
        refine WP.tabIn (off := 41) (tgt := 71) (dg tX7_count 21 rfl) (by omega) (by omega) (by rw [hq]; rfl) (by decide) ?_
        refine WP.aload_n 0 (dg tX7_count 27 rfl) rfl rfl ?_
        refine WP.getF fX7_32 h0.1 (dg tX7_count 28 rfl) ?_
        refine WP.iconst (v := 0) (dg tX7_count 29 rfl) (by decide) ?_
        refine WP.ialdc (k := 0) h0.2.2.2.2.2.2.2.2.1 (by decide) (by decide) (dg tX7_count 30 rfl) ?_
        exact WP.iret rfl (dg tX7_count 31 rfl) ⟨_, rfl, h⟩
      · have he : x1 = 2 := Int32.toInt_inj.mp (by rw [hq]; rfl)
        replace h := h.2.2.1 (he)
        refine WP.tabIn (off := 48) (tgt := 78) (dg tX7_count 21 rfl) (by omega) (by omega) (by rw [hq]; rfl) (by decide) ?_
        refine WP.iload_n 2 (dg tX7_count 32 rfl) rfl rfl ?_
        exact WP.iret rfl (dg tX7_count 33 rfl) ⟨_, rfl, h⟩
      · have he : x1 = 3 := Int32.toInt_inj.mp (by rw [hq]; rfl)
        replace h := h.2.2.2.1 (he)
        refine WP.tabIn (off := 50) (tgt := 80) (dg tX7_count 21 rfl) (by omega) (by omega) (by rw [hq]; rfl) (by decide) ?_
        refine WP.aload_n 0 (dg tX7_count 34 rfl) rfl rfl ?_
        refine WP.getF fX7_59 h0.1 (dg tX7_count 35 rfl) ?_
        refine WP.bipush (v := 31) (dg tX7_count 36 rfl) (by decide) ?_
        refine WP.ialdc (k := 31) h0.2.2.2.2.2.2.2.2.2.2.2.2.2.2.2.2.2.1 (by decide) (by decide) (dg tX7_count 37 rfl) ?_
        exact WP.iret rfl (dg tX7_count 38 rfl) ⟨_, rfl, h⟩
      · have he : x1 = 4 := Int32.toInt_inj.mp (by rw [hq]; rfl)
        replace h := h.2.2.2.2.1 (he)
        refine WP.tabIn (off := 58) (tgt := 88) (dg tX7_count 21 rfl) (by omega) (by omega) (by rw [hq]; rfl) (by decide) ?_
        refine WP.aload_n 0 (dg tX7_count 39 rfl) rfl rfl ?_
        refine WP.getI fX7_92 h0.1 (dg tX7_count 40 rfl) ?_
        exact WP.iret rfl (dg tX7_count 41 rfl) ⟨_, rfl, h⟩
  · replace h := h.2 z
    refine WP.iload_n 2 (dg tX7_count 7 rfl) rfl rfl ?_
    refine WP.aload_n 0 (dg tX7_count 8 rfl) rfl rfl ?_
    refine WP.getF fX7_26 h0.1 (dg tX7_count 9 rfl) ?_
    refine WP.iconst (v := 0) (dg tX7_count 10 rfl) (by decide) ?_
    refine WP.ialdc (k := 0) h0.2.2.2.2.2.2.1 (by decide) (by decide) (dg tX7_count 11 rfl) ?_
    refine WP.iload_n 3 (dg tX7_count 12 rfl) rfl rfl ?_
    refine WP.ishr (dg tX7_count 13 rfl) ?_
    refine WP.iconst (v := 1) (dg tX7_count 14 rfl) (by decide) ?_
    refine WP.iand (dg tX7_count 15 rfl) ?_
    refine WP.iadd (dg tX7_count 16 rfl) ?_
    refine WP.topi (fun v1 e_v1 => ?_)
    have h := h v1 e_v1
    refine WP.istore_n (L2 := [(2, .int v1), (0, .ref x0), (1, .int x1), (3, .int x3)]) (dg tX7_count 17 rfl) rfl (by decide) rfl ?_
    obtain ⟨v2, e_v2⟩ : ∃ y : Int32, y = x3 + 1 := ⟨_, rfl⟩
    have h := h v2 e_v2
    refine WP.iinc (v := v2) (L2 := [(3, .int v2), (2, .int v1), (0, .ref x0), (1, .int x1)]) 3 (dg tX7_count 18 rfl) rfl (by rw [e_v2]; rfl) (by decide) rfl ?_
    refine WP.goto (tgt := 4) (dg tX7_count 19 rfl) (by decide) ?_
    refine WP.sub [2, 3, 1, 0] rfl ?_
    exact h
theorem sg_X7_trace_0 {T : Th} {M : Mm} {Q : Int64 → Mm → Prop} {x0 : Nat} (h0 : isX7 T x0)
    (h : Q (M.2.1 x0 0) M) :
    WP T mX7_trace 0 [(0, .ref x0)] [] M (ql Q) := by
  refine WP.aload_n 0 (dg tX7_trace 0 rfl) rfl rfl ?_
  refine WP.getL fX7_239 h0.1 (dg tX7_trace 1 rfl) ?_
  exact WP.lret rfl (dg tX7_trace 2 rfl) ⟨_, rfl, h⟩
