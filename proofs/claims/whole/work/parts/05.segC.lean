theorem sg_J6_bitCount_0f7a4_0 {T : Th} {M : Mm} {Q : Int32 → Mm → Prop} {x0 : Int32} 
    (h : ∀ v1 : Int32, v1 = x0 - (((x0.toUInt32 >>> (Int32.toUInt32 1 &&& Int32.toUInt32 31)).toInt32) &&& 1431655765) → ∀ v2 : Int32, v2 = (v1 &&& 858993459) + (((v1.toUInt32 >>> (Int32.toUInt32 2 &&& Int32.toUInt32 31)).toInt32) &&& 858993459) → ∀ v3 : Int32, v3 = (v2 + ((v2.toUInt32 >>> (Int32.toUInt32 4 &&& Int32.toUInt32 31)).toInt32)) &&& 252645135 → ∀ v4 : Int32, v4 = v3 + ((v3.toUInt32 >>> (Int32.toUInt32 8 &&& Int32.toUInt32 31)).toInt32) → ∀ v5 : Int32, v5 = v4 + ((v4.toUInt32 >>> (Int32.toUInt32 16 &&& Int32.toUInt32 31)).toInt32) → Q (v5 &&& 63) M) :
    WP T mJ6_bitCount_0f7a4 0 [(0, .int x0)] [] M (qi Q) := by
  refine WP.iload_n 0 (dg tJ6_bitCount_0f7a4 0 rfl) rfl rfl ?_
  refine WP.iload_n 0 (dg tJ6_bitCount_0f7a4 1 rfl) rfl rfl ?_
  refine WP.iconst (v := 1) (dg tJ6_bitCount_0f7a4 2 rfl) (by decide) ?_
  refine WP.iushr (dg tJ6_bitCount_0f7a4 3 rfl) ?_
  refine WP.ldcw (v := 1431655765) kJ6_265 (dg tJ6_bitCount_0f7a4 4 rfl) ?_
  refine WP.iand (dg tJ6_bitCount_0f7a4 5 rfl) ?_
  refine WP.isub (dg tJ6_bitCount_0f7a4 6 rfl) ?_
  refine WP.topi (fun v1 e_v1 => ?_)
  have h := h v1 e_v1
  refine WP.istore_n (L2 := [(0, .int v1)]) (dg tJ6_bitCount_0f7a4 7 rfl) rfl (by decide) rfl ?_
  refine WP.iload_n 0 (dg tJ6_bitCount_0f7a4 8 rfl) rfl rfl ?_
  refine WP.ldcw (v := 858993459) kJ6_266 (dg tJ6_bitCount_0f7a4 9 rfl) ?_
  refine WP.iand (dg tJ6_bitCount_0f7a4 10 rfl) ?_
  refine WP.iload_n 0 (dg tJ6_bitCount_0f7a4 11 rfl) rfl rfl ?_
  refine WP.iconst (v := 2) (dg tJ6_bitCount_0f7a4 12 rfl) (by decide) ?_
  refine WP.iushr (dg tJ6_bitCount_0f7a4 13 rfl) ?_
  refine WP.ldcw (v := 858993459) kJ6_266 (dg tJ6_bitCount_0f7a4 14 rfl) ?_
  refine WP.iand (dg tJ6_bitCount_0f7a4 15 rfl) ?_
  refine WP.iadd (dg tJ6_bitCount_0f7a4 16 rfl) ?_
  refine WP.topi (fun v2 e_v2 => ?_)
  have h := h v2 e_v2
  refine WP.istore_n (L2 := [(0, .int v2)]) (dg tJ6_bitCount_0f7a4 17 rfl) rfl (by decide) rfl ?_
  refine WP.iload_n 0 (dg tJ6_bitCount_0f7a4 18 rfl) rfl rfl ?_
  refine WP.iload_n 0 (dg tJ6_bitCount_0f7a4 19 rfl) rfl rfl ?_
  refine WP.iconst (v := 4) (dg tJ6_bitCount_0f7a4 20 rfl) (by decide) ?_
  refine WP.iushr (dg tJ6_bitCount_0f7a4 21 rfl) ?_
  refine WP.iadd (dg tJ6_bitCount_0f7a4 22 rfl) ?_
  refine WP.ldcw (v := 252645135) kJ6_267 (dg tJ6_bitCount_0f7a4 23 rfl) ?_
  refine WP.iand (dg tJ6_bitCount_0f7a4 24 rfl) ?_
  refine WP.topi (fun v3 e_v3 => ?_)
  have h := h v3 e_v3
  refine WP.istore_n (L2 := [(0, .int v3)]) (dg tJ6_bitCount_0f7a4 25 rfl) rfl (by decide) rfl ?_
  refine WP.iload_n 0 (dg tJ6_bitCount_0f7a4 26 rfl) rfl rfl ?_
  refine WP.iload_n 0 (dg tJ6_bitCount_0f7a4 27 rfl) rfl rfl ?_
  refine WP.bipush (v := 8) (dg tJ6_bitCount_0f7a4 28 rfl) (by decide) ?_
  refine WP.iushr (dg tJ6_bitCount_0f7a4 29 rfl) ?_
  refine WP.iadd (dg tJ6_bitCount_0f7a4 30 rfl) ?_
  refine WP.topi (fun v4 e_v4 => ?_)
  have h := h v4 e_v4
  refine WP.istore_n (L2 := [(0, .int v4)]) (dg tJ6_bitCount_0f7a4 31 rfl) rfl (by decide) rfl ?_
  refine WP.iload_n 0 (dg tJ6_bitCount_0f7a4 32 rfl) rfl rfl ?_
  refine WP.iload_n 0 (dg tJ6_bitCount_0f7a4 33 rfl) rfl rfl ?_
  refine WP.bipush (v := 16) (dg tJ6_bitCount_0f7a4 34 rfl) (by decide) ?_
  refine WP.iushr (dg tJ6_bitCount_0f7a4 35 rfl) ?_
  refine WP.iadd (dg tJ6_bitCount_0f7a4 36 rfl) ?_
  refine WP.topi (fun v5 e_v5 => ?_)
  have h := h v5 e_v5
  refine WP.istore_n (L2 := [(0, .int v5)]) (dg tJ6_bitCount_0f7a4 37 rfl) rfl (by decide) rfl ?_
  refine WP.iload_n 0 (dg tJ6_bitCount_0f7a4 38 rfl) rfl rfl ?_
  refine WP.bipush (v := 63) (dg tJ6_bitCount_0f7a4 39 rfl) (by decide) ?_
  refine WP.iand (dg tJ6_bitCount_0f7a4 40 rfl) ?_
  exact WP.iret rfl (dg tJ6_bitCount_0f7a4 41 rfl) ⟨_, rfl, h⟩
theorem sg_X2_copyFrom_0 {T : Th} {M : Mm} {Q : Mm → Prop} {x0 : Nat} {x1 : Nat} (h0 : isX2 T x0) (h1 : isX2 T x1)
    (h : ∀ M1 : Mm, M1 = sI M x0 0 (M.1 x1 0) → ∀ M2 : Mm, M2 = sI M1 x0 1 (M1.1 x1 1) → ∀ M3 : Mm, M3 = sC M2 (x1 + 1) (x0 + 1) 0 0 5 → ∀ M4 : Mm, M4 = sC M3 (x1 + 2) (x0 + 2) 0 0 5 → ∀ M5 : Mm, M5 = sC M4 (x1 + 3) (x0 + 3) 0 0 5 → ∀ M6 : Mm, M6 = sC M5 (x1 + 4) (x0 + 4) 0 0 5 → ∀ M7 : Mm, M7 = sC M6 (x1 + 5) (x0 + 5) 0 0 5 → Q M7) :
    WP T mX2_copyFrom 0 [(0, .ref x0), (1, .ref x1)] [] M (qv Q) := by
  refine WP.aload_n 0 (dg tX2_copyFrom 0 rfl) rfl rfl ?_
  refine WP.aload_n 1 (dg tX2_copyFrom 1 rfl) rfl rfl ?_
  refine WP.getI fX2_27 h1.1 (dg tX2_copyFrom 2 rfl) ?_
  refine WP.putI fX2_27 h0.1 (dg tX2_copyFrom 3 rfl) (fun M1 e_M1 => ?_)
  have h := h M1 e_M1
  refine WP.aload_n 0 (dg tX2_copyFrom 4 rfl) rfl rfl ?_
  refine WP.aload_n 1 (dg tX2_copyFrom 5 rfl) rfl rfl ?_
  refine WP.getI fX2_31 h1.1 (dg tX2_copyFrom 6 rfl) ?_
  refine WP.putI fX2_31 h0.1 (dg tX2_copyFrom 7 rfl) (fun M2 e_M2 => ?_)
  have h := h M2 e_M2
  refine WP.aload_n 1 (dg tX2_copyFrom 8 rfl) rfl rfl ?_
  refine WP.getF fX2_9 h1.1 (dg tX2_copyFrom 9 rfl) ?_
  refine WP.iconst (v := 0) (dg tX2_copyFrom 10 rfl) (by decide) ?_
  refine WP.aload_n 0 (dg tX2_copyFrom 11 rfl) rfl rfl ?_
  refine WP.getF fX2_9 h0.1 (dg tX2_copyFrom 12 rfl) ?_
  refine WP.iconst (v := 0) (dg tX2_copyFrom 13 rfl) (by decide) ?_
  refine WP.iconst (v := 5) (dg tX2_copyFrom 14 rfl) (by decide) ?_
  refine WP.copyi (M := M2) (sp := 0) (dp := 0) (n := 5) h1.2.1 h0.2.1 vX2_34 (by decide) (by decide) (by decide) (by decide) (by decide) (by decide) (Nat.le_of_ble_eq_true rfl) (dg tX2_copyFrom 15 rfl) (fun M3 e_M3 => ?_)
  have h := h M3 e_M3
  refine WP.aload_n 1 (dg tX2_copyFrom 16 rfl) rfl rfl ?_
  refine WP.getF fX2_15 h1.1 (dg tX2_copyFrom 17 rfl) ?_
  refine WP.iconst (v := 0) (dg tX2_copyFrom 18 rfl) (by decide) ?_
  refine WP.aload_n 0 (dg tX2_copyFrom 19 rfl) rfl rfl ?_
  refine WP.getF fX2_15 h0.1 (dg tX2_copyFrom 20 rfl) ?_
  refine WP.iconst (v := 0) (dg tX2_copyFrom 21 rfl) (by decide) ?_
  refine WP.iconst (v := 5) (dg tX2_copyFrom 22 rfl) (by decide) ?_
  refine WP.copyi (M := M3) (sp := 0) (dp := 0) (n := 5) h1.2.2.1 h0.2.2.1 vX2_34 (by decide) (by decide) (by decide) (by decide) (by decide) (by decide) (Nat.le_of_ble_eq_true rfl) (dg tX2_copyFrom 23 rfl) (fun M4 e_M4 => ?_)
  have h := h M4 e_M4
  refine WP.aload_n 1 (dg tX2_copyFrom 24 rfl) rfl rfl ?_
  refine WP.getF fX2_18 h1.1 (dg tX2_copyFrom 25 rfl) ?_
  refine WP.iconst (v := 0) (dg tX2_copyFrom 26 rfl) (by decide) ?_
  refine WP.aload_n 0 (dg tX2_copyFrom 27 rfl) rfl rfl ?_
  refine WP.getF fX2_18 h0.1 (dg tX2_copyFrom 28 rfl) ?_
  refine WP.iconst (v := 0) (dg tX2_copyFrom 29 rfl) (by decide) ?_
  refine WP.iconst (v := 5) (dg tX2_copyFrom 30 rfl) (by decide) ?_
  refine WP.copyi (M := M4) (sp := 0) (dp := 0) (n := 5) h1.2.2.2.1 h0.2.2.2.1 vX2_34 (by decide) (by decide) (by decide) (by decide) (by decide) (by decide) (Nat.le_of_ble_eq_true rfl) (dg tX2_copyFrom 31 rfl) (fun M5 e_M5 => ?_)
  have h := h M5 e_M5
  refine WP.aload_n 1 (dg tX2_copyFrom 32 rfl) rfl rfl ?_
  refine WP.getF fX2_21 h1.1 (dg tX2_copyFrom 33 rfl) ?_
  refine WP.iconst (v := 0) (dg tX2_copyFrom 34 rfl) (by decide) ?_
  refine WP.aload_n 0 (dg tX2_copyFrom 35 rfl) rfl rfl ?_
  refine WP.getF fX2_21 h0.1 (dg tX2_copyFrom 36 rfl) ?_
  refine WP.iconst (v := 0) (dg tX2_copyFrom 37 rfl) (by decide) ?_
  refine WP.iconst (v := 5) (dg tX2_copyFrom 38 rfl) (by decide) ?_
  refine WP.copyi (M := M5) (sp := 0) (dp := 0) (n := 5) h1.2.2.2.2.1 h0.2.2.2.2.1 vX2_34 (by decide) (by decide) (by decide) (by decide) (by decide) (by decide) (Nat.le_of_ble_eq_true rfl) (dg tX2_copyFrom 39 rfl) (fun M6 e_M6 => ?_)
  have h := h M6 e_M6
  refine WP.aload_n 1 (dg tX2_copyFrom 40 rfl) rfl rfl ?_
  refine WP.getF fX2_24 h1.1 (dg tX2_copyFrom 41 rfl) ?_
  refine WP.iconst (v := 0) (dg tX2_copyFrom 42 rfl) (by decide) ?_
  refine WP.aload_n 0 (dg tX2_copyFrom 43 rfl) rfl rfl ?_
  refine WP.getF fX2_24 h0.1 (dg tX2_copyFrom 44 rfl) ?_
  refine WP.iconst (v := 0) (dg tX2_copyFrom 45 rfl) (by decide) ?_
  refine WP.iconst (v := 5) (dg tX2_copyFrom 46 rfl) (by decide) ?_
  refine WP.copyi (M := M6) (sp := 0) (dp := 0) (n := 5) h1.2.2.2.2.2 h0.2.2.2.2.2 vX2_34 (by decide) (by decide) (by decide) (by decide) (by decide) (by decide) (Nat.le_of_ble_eq_true rfl) (dg tX2_copyFrom 47 rfl) (fun M7 e_M7 => ?_)
  have h := h M7 e_M7
  exact WP.vret rfl (dg tX2_copyFrom 48 rfl) ⟨rfl, h⟩
theorem sg_X2_isCaught_0 {T : Th} {M : Mm} {Q : Int32 → Mm → Prop} {x0 : Nat} {x1 : Int32} (h0 : isX2 T x0)
    (h : (¬ (((M.1 x0 1) >>> (x1 &&& 31)) &&& 1) = 1 → Q 0 M) ∧ ((((M.1 x0 1) >>> (x1 &&& 31)) &&& 1) = 1 → Q 1 M)) :
    WP T mX2_isCaught 0 [(0, .ref x0), (1, .int x1)] [] M (qi Q) := by
  refine WP.aload_n 0 (dg tX2_isCaught 0 rfl) rfl rfl ?_
  refine WP.getI fX2_31 h0.1 (dg tX2_isCaught 1 rfl) ?_
  refine WP.iload_n 1 (dg tX2_isCaught 2 rfl) rfl rfl ?_
  refine WP.ishr (dg tX2_isCaught 3 rfl) ?_
  refine WP.iconst (v := 1) (dg tX2_isCaught 4 rfl) (by decide) ?_
  refine WP.iand (dg tX2_isCaught 5 rfl) ?_
  refine WP.iconst (v := 1) (dg tX2_isCaught 6 rfl) (by decide) ?_
  refine WP.icmp_ne (tgt := 16) (dg tX2_isCaught 7 rfl) (by decide) (fun z => ?_) (fun z => ?_)
  · replace h := h.1 z
    refine WP.iconst (v := 0) (dg tX2_isCaught 10 rfl) (by decide) ?_
    exact WP.zret rfl (by decide) (dg tX2_isCaught 11 rfl) ⟨_, rfl, h⟩
  · replace h := h.2 z
    refine WP.iconst (v := 1) (dg tX2_isCaught 8 rfl) (by decide) ?_
    refine WP.goto (tgt := 17) (dg tX2_isCaught 9 rfl) (by decide) ?_
    exact WP.zret rfl (by decide) (dg tX2_isCaught 11 rfl) ⟨_, rfl, h⟩
theorem sg_X1_reset_0 {T : Th} {M : Mm} {Q : Mm → Prop} {x0 : Nat} (h0 : isX1 T x0)
    (h : ∀ M1 : Mm, M1 = sI M x0 0 8 → ∀ M2 : Mm, M2 = sI M1 x0 1 3 → ∀ M3 : Mm, M3 = sI M2 x0 2 5 → ∀ M4 : Mm, M4 = sI M3 x0 3 0 → ∀ M5 : Mm, M5 = sI M4 x0 4 (-9) → ∀ M6 : Mm, M6 = sI M5 x0 5 0 → ∀ M7 : Mm, M7 = sI M6 x0 6 0 → ∀ M8 : Mm, M8 = sI M7 x0 7 0 → WP T mX1_reset 44 [(0, .ref x0), (1, .int 0)] [] M8 (qv Q)) :
    WP T mX1_reset 0 [(0, .ref x0)] [] M (qv Q) := by
  refine WP.aload_n 0 (dg tX1_reset 0 rfl) rfl rfl ?_
  refine WP.bipush (v := 8) (dg tX1_reset 1 rfl) (by decide) ?_
  refine WP.putI fX1_37 h0.1 (dg tX1_reset 2 rfl) (fun M1 e_M1 => ?_)
  have h := h M1 e_M1
  refine WP.aload_n 0 (dg tX1_reset 3 rfl) rfl rfl ?_
  refine WP.iconst (v := 3) (dg tX1_reset 4 rfl) (by decide) ?_
  refine WP.putI fX1_41 h0.1 (dg tX1_reset 5 rfl) (fun M2 e_M2 => ?_)
  have h := h M2 e_M2
  refine WP.aload_n 0 (dg tX1_reset 6 rfl) rfl rfl ?_
  refine WP.iconst (v := 5) (dg tX1_reset 7 rfl) (by decide) ?_
  refine WP.putI fX1_44 h0.1 (dg tX1_reset 8 rfl) (fun M3 e_M3 => ?_)
  have h := h M3 e_M3
  refine WP.aload_n 0 (dg tX1_reset 9 rfl) rfl rfl ?_
  refine WP.iconst (v := 0) (dg tX1_reset 10 rfl) (by decide) ?_
  refine WP.putZ fX1_47 h0.1 (by decide) (dg tX1_reset 11 rfl) (fun M4 e_M4 => ?_)
  have h := h M4 e_M4
  refine WP.aload_n 0 (dg tX1_reset 12 rfl) rfl rfl ?_
  refine WP.bipush (v := (-9)) (dg tX1_reset 13 rfl) (by decide) ?_
  refine WP.putI fX1_51 h0.1 (dg tX1_reset 14 rfl) (fun M5 e_M5 => ?_)
  have h := h M5 e_M5
  refine WP.aload_n 0 (dg tX1_reset 15 rfl) rfl rfl ?_
  refine WP.iconst (v := 0) (dg tX1_reset 16 rfl) (by decide) ?_
  refine WP.putI fX1_54 h0.1 (dg tX1_reset 17 rfl) (fun M6 e_M6 => ?_)
  have h := h M6 e_M6
  refine WP.aload_n 0 (dg tX1_reset 18 rfl) rfl rfl ?_
  refine WP.iconst (v := 0) (dg tX1_reset 19 rfl) (by decide) ?_
  refine WP.putI fX1_57 h0.1 (dg tX1_reset 20 rfl) (fun M7 e_M7 => ?_)
  have h := h M7 e_M7
  refine WP.aload_n 0 (dg tX1_reset 21 rfl) rfl rfl ?_
  refine WP.iconst (v := 0) (dg tX1_reset 22 rfl) (by decide) ?_
  refine WP.putI fX1_60 h0.1 (dg tX1_reset 23 rfl) (fun M8 e_M8 => ?_)
  have h := h M8 e_M8
  refine WP.iconst (v := 0) (dg tX1_reset 24 rfl) (by decide) ?_
  refine WP.istore_n (L2 := [(1, .int 0), (0, .ref x0)]) (dg tX1_reset 25 rfl) rfl (by decide) rfl ?_
  refine WP.sub [1, 0] rfl ?_
  exact h
theorem sg_X1_reset_44 {T : Th} {M : Mm} {Q : Mm → Prop} {x0 : Nat} {x1 : Int32} (h0 : isX1 T x0)
    (h : (12 ≤ x1 → Q M) ∧ (¬ 12 ≤ x1 → vp_in x1 12 ∧ (∀ M1 : Mm, M1 = sI M (x0 + 1) x1.toNatClampNeg 1 → ∀ v2 : Int32, v2 = x1 + 1 → WP T mX1_reset 44 [(0, .ref x0), (1, .int v2)] [] M1 (qv Q)))) :
    WP T mX1_reset 44 [(0, .ref x0), (1, .int x1)] [] M (qv Q) := by
  refine WP.iload_n 1 (dg tX1_reset 26 rfl) rfl rfl ?_
  refine WP.bipush (v := 12) (dg tX1_reset 27 rfl) (by decide) ?_
  refine WP.icmp_ge (tgt := 63) (dg tX1_reset 28 rfl) (by decide) (fun z => ?_) (fun z => ?_)
  · replace h := h.1 z
    exact WP.vret rfl (dg tX1_reset 36 rfl) ⟨rfl, h⟩
  · replace h := h.2 z
    refine WP.aload_n 0 (dg tX1_reset 29 rfl) rfl rfl ?_
    refine WP.getF fX1_9 h0.1 (dg tX1_reset 30 rfl) ?_
    refine WP.iload_n 1 (dg tX1_reset 31 rfl) rfl rfl ?_
    refine WP.iconst (v := 1) (dg tX1_reset 32 rfl) (by decide) ?_
    obtain ⟨hb56, h⟩ := h
    refine WP.iast h0.2.1 hb56 (dg tX1_reset 33 rfl) (fun M1 e_M1 => ?_)
    have h := h M1 e_M1
    obtain ⟨v2, e_v2⟩ : ∃ y : Int32, y = x1 + 1 := ⟨_, rfl⟩
    have h := h v2 e_v2
    refine WP.iinc (v := v2) (L2 := [(1, .int v2), (0, .ref x0)]) 1 (dg tX1_reset 34 rfl) rfl (by rw [e_v2]; rfl) (by decide) rfl ?_
    refine WP.goto (tgt := 44) (dg tX1_reset 35 rfl) (by decide) ?_
    refine WP.sub [1, 0] rfl ?_
    exact h
theorem sg_X1_addWagon_0 {T : Th} {M : Mm} {Q : Mm → Prop} {x0 : Nat} {x1 : Int32} {x2 : Int32} {x3 : Int32} {x4 : Int32} (h0 : isX1 T x0)
    (h : ((M.1 x0 6) < 0 → Q M) ∧ (¬ (M.1 x0 6) < 0 → ((M.1 x0 6) < 5 → vp_in (M.1 x0 6) 5 ∧ (∀ M1 : Mm, M1 = sI M (x0 + 2) (M.1 x0 6).toNatClampNeg x2 → vp_in (M1.1 x0 6) 5 ∧ (∀ M2 : Mm, M2 = sI M1 (x0 + 3) (M1.1 x0 6).toNatClampNeg x3 → vp_in (M2.1 x0 6) 5 ∧ (∀ M3 : Mm, M3 = sI M2 ((x0 + 6) + 1) (M2.1 x0 6).toNatClampNeg x1 → vp_in (M3.1 x0 6) 5 ∧ (∀ M4 : Mm, M4 = sI M3 ((x0 + 6) + 2) (M3.1 x0 6).toNatClampNeg x4 → ∀ M5 : Mm, M5 = sI M4 x0 6 ((M4.1 x0 6) + 1) → Q M5))))) ∧ (¬ (M.1 x0 6) < 5 → Q M))) :
    WP T mX1_addWagon 0 [(0, .ref x0), (1, .int x1), (2, .int x2), (3, .int x3), (4, .int x4)] [] M (qv Q) := by
  refine WP.aload_n 0 (dg tX1_addWagon 0 rfl) rfl rfl ?_
  refine WP.getI fX1_57 h0.1 (dg tX1_addWagon 1 rfl) ?_
  refine WP.if_lt (tgt := 15) (dg tX1_addWagon 2 rfl) (by decide) (fun z => ?_) (fun z => ?_)
  · replace h := h.1 z
    exact WP.vret rfl (dg tX1_addWagon 7 rfl) ⟨rfl, h⟩
  · replace h := h.2 z
    refine WP.aload_n 0 (dg tX1_addWagon 3 rfl) rfl rfl ?_
    refine WP.getI fX1_57 h0.1 (dg tX1_addWagon 4 rfl) ?_
    refine WP.iconst (v := 5) (dg tX1_addWagon 5 rfl) (by decide) ?_
    refine WP.icmp_lt (tgt := 16) (dg tX1_addWagon 6 rfl) (by decide) (fun z => ?_) (fun z => ?_)
    · replace h := h.1 z
      refine WP.aload_n 0 (dg tX1_addWagon 8 rfl) rfl rfl ?_
      refine WP.getF fX1_15 h0.1 (dg tX1_addWagon 9 rfl) ?_
      refine WP.aload_n 0 (dg tX1_addWagon 10 rfl) rfl rfl ?_
      refine WP.getI fX1_57 h0.1 (dg tX1_addWagon 11 rfl) ?_
      refine WP.iload_n 2 (dg tX1_addWagon 12 rfl) rfl rfl ?_
      obtain ⟨hb25, h⟩ := h
      refine WP.iast h0.2.2.1 hb25 (dg tX1_addWagon 13 rfl) (fun M1 e_M1 => ?_)
      have h := h M1 e_M1
      refine WP.aload_n 0 (dg tX1_addWagon 14 rfl) rfl rfl ?_
      refine WP.getF fX1_18 h0.1 (dg tX1_addWagon 15 rfl) ?_
      refine WP.aload_n 0 (dg tX1_addWagon 16 rfl) rfl rfl ?_
      refine WP.getI fX1_57 h0.1 (dg tX1_addWagon 17 rfl) ?_
      refine WP.iload_n 3 (dg tX1_addWagon 18 rfl) rfl rfl ?_
      obtain ⟨hb35, h⟩ := h
      refine WP.iast h0.2.2.2.1 hb35 (dg tX1_addWagon 19 rfl) (fun M2 e_M2 => ?_)
      have h := h M2 e_M2
      refine WP.aload_n 0 (dg tX1_addWagon 20 rfl) rfl rfl ?_
      refine WP.getF fX1_30 h0.1 (dg tX1_addWagon 21 rfl) ?_
      refine WP.getF fX1_63 h0.2.2.2.2.2.2.1 (dg tX1_addWagon 22 rfl) ?_
      refine WP.aload_n 0 (dg tX1_addWagon 23 rfl) rfl rfl ?_
      refine WP.getI fX1_57 h0.1 (dg tX1_addWagon 24 rfl) ?_
      refine WP.iload_n 1 (dg tX1_addWagon 25 rfl) rfl rfl ?_
      obtain ⟨hb48, h⟩ := h
      refine WP.iast h0.2.2.2.2.2.2.2.1 hb48 (dg tX1_addWagon 26 rfl) (fun M3 e_M3 => ?_)
      have h := h M3 e_M3
      refine WP.aload_n 0 (dg tX1_addWagon 27 rfl) rfl rfl ?_
      refine WP.getF fX1_30 h0.1 (dg tX1_addWagon 28 rfl) ?_
      refine WP.getF fX1_66 h0.2.2.2.2.2.2.1 (dg tX1_addWagon 29 rfl) ?_
      refine WP.aload_n 0 (dg tX1_addWagon 30 rfl) rfl rfl ?_
      refine WP.getI fX1_57 h0.1 (dg tX1_addWagon 31 rfl) ?_
      refine WP.iload 4 (dg tX1_addWagon 32 rfl) rfl ?_
      obtain ⟨hb62, h⟩ := h
      refine WP.iast h0.2.2.2.2.2.2.2.2.1 hb62 (dg tX1_addWagon 33 rfl) (fun M4 e_M4 => ?_)
      have h := h M4 e_M4
      refine WP.aload_n 0 (dg tX1_addWagon 34 rfl) rfl rfl ?_
      refine WP.dup (dg tX1_addWagon 35 rfl) rfl ?_
      refine WP.getI fX1_57 h0.1 (dg tX1_addWagon 36 rfl) ?_
      refine WP.iconst (v := 1) (dg tX1_addWagon 37 rfl) (by decide) ?_
      refine WP.iadd (dg tX1_addWagon 38 rfl) ?_
      refine WP.putI fX1_57 h0.1 (dg tX1_addWagon 39 rfl) (fun M5 e_M5 => ?_)
      have h := h M5 e_M5
      exact WP.vret rfl (dg tX1_addWagon 40 rfl) ⟨rfl, h⟩
    · replace h := h.2 z
      exact WP.vret rfl (dg tX1_addWagon 7 rfl) ⟨rfl, h⟩
theorem sg_X1_addPair_0 {T : Th} {M : Mm} {Q : Mm → Prop} {x0 : Nat} {x1 : Int32} {x2 : Int32} (h0 : isX1 T x0)
    (h : ((M.1 x0 7) < 0 → Q M) ∧ (¬ (M.1 x0 7) < 0 → ((M.1 x0 7) < 4 → vp_in (M.1 x0 7) 4 ∧ (∀ M1 : Mm, M1 = sI M (x0 + 4) (M.1 x0 7).toNatClampNeg x1 → vp_in (M1.1 x0 7) 4 ∧ (∀ M2 : Mm, M2 = sI M1 (x0 + 5) (M1.1 x0 7).toNatClampNeg x2 → ∀ M3 : Mm, M3 = sI M2 x0 7 ((M2.1 x0 7) + 1) → Q M3))) ∧ (¬ (M.1 x0 7) < 4 → Q M))) :
    WP T mX1_addPair 0 [(0, .ref x0), (1, .int x1), (2, .int x2)] [] M (qv Q) := by
  refine WP.aload_n 0 (dg tX1_addPair 0 rfl) rfl rfl ?_
  refine WP.getI fX1_60 h0.1 (dg tX1_addPair 1 rfl) ?_
  refine WP.if_lt (tgt := 15) (dg tX1_addPair 2 rfl) (by decide) (fun z => ?_) (fun z => ?_)
  · replace h := h.1 z
    exact WP.vret rfl (dg tX1_addPair 7 rfl) ⟨rfl, h⟩
  · replace h := h.2 z
    refine WP.aload_n 0 (dg tX1_addPair 3 rfl) rfl rfl ?_
    refine WP.getI fX1_60 h0.1 (dg tX1_addPair 4 rfl) ?_
    refine WP.iconst (v := 4) (dg tX1_addPair 5 rfl) (by decide) ?_
    refine WP.icmp_lt (tgt := 16) (dg tX1_addPair 6 rfl) (by decide) (fun z => ?_) (fun z => ?_)
    · replace h := h.1 z
      refine WP.aload_n 0 (dg tX1_addPair 8 rfl) rfl rfl ?_
      refine WP.getF fX1_21 h0.1 (dg tX1_addPair 9 rfl) ?_
      refine WP.aload_n 0 (dg tX1_addPair 10 rfl) rfl rfl ?_
      refine WP.getI fX1_60 h0.1 (dg tX1_addPair 11 rfl) ?_
      refine WP.iload_n 1 (dg tX1_addPair 12 rfl) rfl rfl ?_
      obtain ⟨hb25, h⟩ := h
      refine WP.iast h0.2.2.2.2.1 hb25 (dg tX1_addPair 13 rfl) (fun M1 e_M1 => ?_)
      have h := h M1 e_M1
      refine WP.aload_n 0 (dg tX1_addPair 14 rfl) rfl rfl ?_
      refine WP.getF fX1_24 h0.1 (dg tX1_addPair 15 rfl) ?_
      refine WP.aload_n 0 (dg tX1_addPair 16 rfl) rfl rfl ?_
      refine WP.getI fX1_60 h0.1 (dg tX1_addPair 17 rfl) ?_
      refine WP.iload_n 2 (dg tX1_addPair 18 rfl) rfl rfl ?_
      obtain ⟨hb35, h⟩ := h
      refine WP.iast h0.2.2.2.2.2.1 hb35 (dg tX1_addPair 19 rfl) (fun M2 e_M2 => ?_)
      have h := h M2 e_M2
      refine WP.aload_n 0 (dg tX1_addPair 20 rfl) rfl rfl ?_
      refine WP.dup (dg tX1_addPair 21 rfl) rfl ?_
      refine WP.getI fX1_60 h0.1 (dg tX1_addPair 22 rfl) ?_
      refine WP.iconst (v := 1) (dg tX1_addPair 23 rfl) (by decide) ?_
      refine WP.iadd (dg tX1_addPair 24 rfl) ?_
      refine WP.putI fX1_60 h0.1 (dg tX1_addPair 25 rfl) (fun M3 e_M3 => ?_)
      have h := h M3 e_M3
      exact WP.vret rfl (dg tX1_addPair 26 rfl) ⟨rfl, h⟩
    · replace h := h.2 z
      exact WP.vret rfl (dg tX1_addPair 7 rfl) ⟨rfl, h⟩
theorem sg_X1_settle_0 {T : Th} {M : Mm} {Q : Mm → Prop} {x0 : Nat} (h0 : isX1 T x0)
    (h : WP T mX1_settle 2 [(0, .ref x0), (1, .int 0)] [] M (qv Q)) :
    WP T mX1_settle 0 [(0, .ref x0)] [] M (qv Q) := by
  refine WP.iconst (v := 0) (dg tX1_settle 0 rfl) (by decide) ?_
  refine WP.istore_n (L2 := [(1, .int 0), (0, .ref x0)]) (dg tX1_settle 1 rfl) rfl (by decide) rfl ?_
  refine WP.sub [1, 0] rfl ?_
  exact h
theorem sg_X1_settle_2 {T : Th} {M : Mm} {Q : Mm → Prop} {x0 : Nat} {x1 : Int32} (h0 : isX1 T x0)
    (h : ((M.1 x0 7) ≤ x1 → WP T mX1_settle 27 [(0, .ref x0), (1, .int 0)] [] M (qv Q)) ∧ (¬ (M.1 x0 7) ≤ x1 → (4 ≤ x1 → WP T mX1_settle 27 [(0, .ref x0), (1, .int 0)] [] M (qv Q)) ∧ (¬ 4 ≤ x1 → WPv T mX1_joinPaces [.ref x0] M (fun M1 => ∀ v2 : Int32, v2 = x1 + 1 → WP T mX1_settle 2 [(0, .ref x0), (1, .int v2)] [] M1 (qv Q))))) :
    WP T mX1_settle 2 [(0, .ref x0), (1, .int x1)] [] M (qv Q) := by
  refine WP.iload_n 1 (dg tX1_settle 2 rfl) rfl rfl ?_
  refine WP.aload_n 0 (dg tX1_settle 3 rfl) rfl rfl ?_
  refine WP.getI fX1_60 h0.1 (dg tX1_settle 4 rfl) ?_
  refine WP.icmp_ge (tgt := 25) (dg tX1_settle 5 rfl) (by decide) (fun z => ?_) (fun z => ?_)
  · replace h := h.1 z
    refine WP.iconst (v := 0) (dg tX1_settle 13 rfl) (by decide) ?_
    refine WP.istore_n (L2 := [(1, .int 0), (0, .ref x0)]) (dg tX1_settle 14 rfl) rfl (by decide) rfl ?_
    refine WP.sub [1, 0] rfl ?_
    exact h
  · replace h := h.2 z
    refine WP.iload_n 1 (dg tX1_settle 6 rfl) rfl rfl ?_
    refine WP.iconst (v := 4) (dg tX1_settle 7 rfl) (by decide) ?_
    refine WP.icmp_ge (tgt := 25) (dg tX1_settle 8 rfl) (by decide) (fun z => ?_) (fun z => ?_)
    · replace h := h.1 z
      refine WP.iconst (v := 0) (dg tX1_settle 13 rfl) (by decide) ?_
      refine WP.istore_n (L2 := [(1, .int 0), (0, .ref x0)]) (dg tX1_settle 14 rfl) rfl (by decide) rfl ?_
      refine WP.sub [1, 0] rfl ?_
      exact h
    · replace h := h.2 z
      refine WP.aload_n 0 (dg tX1_settle 9 rfl) rfl rfl ?_
      refine WP.callVv (As := []) (st := []) vX1_69 h0.1 rfl rfl ⟨Nat.le_of_ble_eq_true rfl, Nat.le_of_ble_eq_true rfl⟩ (Nat.le_of_ble_eq_true rfl) rfl (dg tX1_settle 10 rfl) h (fun M1 h => ?_)
      obtain ⟨v2, e_v2⟩ : ∃ y : Int32, y = x1 + 1 := ⟨_, rfl⟩
      have h := h v2 e_v2
      refine WP.iinc (v := v2) (L2 := [(1, .int v2), (0, .ref x0)]) 1 (dg tX1_settle 11 rfl) rfl (by rw [e_v2]; rfl) (by decide) rfl ?_
      refine WP.goto (tgt := 2) (dg tX1_settle 12 rfl) (by decide) ?_
      refine WP.sub [1, 0] rfl ?_
      exact h
theorem sg_X1_settle_27 {T : Th} {M : Mm} {Q : Mm → Prop} {x0 : Nat} {x1 : Int32} (h0 : isX1 T x0)
    (h : ((M.1 x0 6) ≤ x1 → Q M) ∧ (¬ (M.1 x0 6) ≤ x1 → (5 ≤ x1 → Q M) ∧ (¬ 5 ≤ x1 → vp_in x1 5 ∧ (WPi T mX1_minutesFor [.ref x0, .int x1, .int (M.1 ((x0 + 6) + 1) x1.toNatClampNeg)] M (fun v2 M1 => vp_in x1 5 ∧ (∀ M3 : Mm, M3 = sI M1 ((x0 + 6) + 3) x1.toNatClampNeg v2 → ∀ v4 : Int32, v4 = x1 + 1 → WP T mX1_settle 27 [(0, .ref x0), (1, .int v4)] [] M3 (qv Q))))))) :
    WP T mX1_settle 27 [(0, .ref x0), (1, .int x1)] [] M (qv Q) := by
  refine WP.iload_n 1 (dg tX1_settle 15 rfl) rfl rfl ?_
  refine WP.aload_n 0 (dg tX1_settle 16 rfl) rfl rfl ?_
  refine WP.getI fX1_57 h0.1 (dg tX1_settle 17 rfl) ?_
  refine WP.icmp_ge (tgt := 69) (dg tX1_settle 18 rfl) (by decide) (fun z => ?_) (fun z => ?_)
  · replace h := h.1 z
    exact WP.vret rfl (dg tX1_settle 37 rfl) ⟨rfl, h⟩
  · replace h := h.2 z
    refine WP.iload_n 1 (dg tX1_settle 19 rfl) rfl rfl ?_
    refine WP.iconst (v := 5) (dg tX1_settle 20 rfl) (by decide) ?_
    refine WP.icmp_ge (tgt := 69) (dg tX1_settle 21 rfl) (by decide) (fun z => ?_) (fun z => ?_)
    · replace h := h.1 z
      exact WP.vret rfl (dg tX1_settle 37 rfl) ⟨rfl, h⟩
    · replace h := h.2 z
      refine WP.aload_n 0 (dg tX1_settle 22 rfl) rfl rfl ?_
      refine WP.getF fX1_30 h0.1 (dg tX1_settle 23 rfl) ?_
      refine WP.getF fX1_72 h0.2.2.2.2.2.2.1 (dg tX1_settle 24 rfl) ?_
      refine WP.iload_n 1 (dg tX1_settle 25 rfl) rfl rfl ?_
      refine WP.aload_n 0 (dg tX1_settle 26 rfl) rfl rfl ?_
      refine WP.iload_n 1 (dg tX1_settle 27 rfl) rfl rfl ?_
      refine WP.aload_n 0 (dg tX1_settle 28 rfl) rfl rfl ?_
      refine WP.getF fX1_30 h0.1 (dg tX1_settle 29 rfl) ?_
      refine WP.getF fX1_63 h0.2.2.2.2.2.2.1 (dg tX1_settle 30 rfl) ?_
      refine WP.iload_n 1 (dg tX1_settle 31 rfl) rfl rfl ?_
      obtain ⟨hb58, h⟩ := h
      refine WP.iald h0.2.2.2.2.2.2.2.1 hb58 (dg tX1_settle 32 rfl) ?_
      refine WP.callVi (As := [.int x1, .int (M.1 ((x0 + 6) + 1) x1.toNatClampNeg)]) (st := [.int x1, .ref ((x0 + 6) + 3)]) vX1_75 h0.1 rfl rfl ⟨Nat.le_of_ble_eq_true rfl, Nat.le_of_ble_eq_true rfl⟩ (Nat.le_of_ble_eq_true rfl) rfl (dg tX1_settle 33 rfl) h (fun v2 M1 h => ?_)
      obtain ⟨hb62, h⟩ := h
      refine WP.iast h0.2.2.2.2.2.2.2.2.2.1 hb62 (dg tX1_settle 34 rfl) (fun M3 e_M3 => ?_)
      have h := h M3 e_M3
      obtain ⟨v4, e_v4⟩ : ∃ y : Int32, y = x1 + 1 := ⟨_, rfl⟩
      have h := h v4 e_v4
      refine WP.iinc (v := v4) (L2 := [(1, .int v4), (0, .ref x0)]) 1 (dg tX1_settle 35 rfl) rfl (by rw [e_v4]; rfl) (by decide) rfl ?_
      refine WP.goto (tgt := 27) (dg tX1_settle 36 rfl) (by decide) ?_
      refine WP.sub [1, 0] rfl ?_
      exact h
theorem sg_X1_joinPaces_0 {T : Th} {M : Mm} {Q : Mm → Prop} {x0 : Nat} (h0 : isX1 T x0)
    (h : WP T mX1_joinPaces 2 [(0, .ref x0), (1, .int 0)] [] M (qv Q)) :
    WP T mX1_joinPaces 0 [(0, .ref x0)] [] M (qv Q) := by
  refine WP.iconst (v := 0) (dg tX1_joinPaces 0 rfl) (by decide) ?_
  refine WP.istore_n (L2 := [(1, .int 0), (0, .ref x0)]) (dg tX1_joinPaces 1 rfl) rfl (by decide) rfl ?_
  refine WP.sub [1, 0] rfl ?_
  exact h
theorem sg_X1_joinPaces_2 {T : Th} {M : Mm} {Q : Mm → Prop} {x0 : Nat} {x1 : Int32} (h0 : isX1 T x0)
    (h : ((M.1 x0 7) ≤ x1 → Q M) ∧ (¬ (M.1 x0 7) ≤ x1 → (4 ≤ x1 → Q M) ∧ (¬ 4 ≤ x1 → vp_in x1 4 ∧ (∀ v1 : Int32, v1 = M.1 (x0 + 4) x1.toNatClampNeg → vp_in x1 4 ∧ (∀ v2 : Int32, v2 = M.1 (x0 + 5) x1.toNatClampNeg → WPi T mX1_hasWagon [.ref x0, .int v1] M (fun v4 M3 => (v4 = 0 → ∀ v5 : Int32, v5 = x1 + 1 → WP T mX1_joinPaces 2 [(0, .ref x0), (1, .int v5)] [] M3 (qv Q)) ∧ (¬ v4 = 0 → WPi T mX1_hasWagon [.ref x0, .int v2] M3 (fun v6 M5 => (v6 = 0 → ∀ v7 : Int32, v7 = x1 + 1 → WP T mX1_joinPaces 2 [(0, .ref x0), (1, .int v7)] [] M5 (qv Q)) ∧ (¬ v6 = 0 → vp_in v1 5 ∧ (vp_in v2 5 ∧ (∀ v7 : Int32, v7 = (if (M5.1 (x0 + 2) v1.toNatClampNeg) < (M5.1 (x0 + 2) v2.toNatClampNeg) then (M5.1 (x0 + 2) v2.toNatClampNeg) else (M5.1 (x0 + 2) v1.toNatClampNeg)) → vp_in v1 5 ∧ (∀ M8 : Mm, M8 = sI M5 (x0 + 2) v1.toNatClampNeg v7 → vp_in v2 5 ∧ (∀ M9 : Mm, M9 = sI M8 (x0 + 2) v2.toNatClampNeg v7 → ∀ v10 : Int32, v10 = x1 + 1 → WP T mX1_joinPaces 2 [(0, .ref x0), (1, .int v10)] [] M9 (qv Q)))))))))))))) :
    WP T mX1_joinPaces 2 [(0, .ref x0), (1, .int x1)] [] M (qv Q) := by
  refine WP.iload_n 1 (dg tX1_joinPaces 2 rfl) rfl rfl ?_
  refine WP.aload_n 0 (dg tX1_joinPaces 3 rfl) rfl rfl ?_
  refine WP.getI fX1_60 h0.1 (dg tX1_joinPaces 4 rfl) ?_
  refine WP.icmp_ge (tgt := 84) (dg tX1_joinPaces 5 rfl) (by decide) (fun z => ?_) (fun z => ?_)
  · replace h := h.1 z
    exact WP.vret rfl (dg tX1_joinPaces 49 rfl) ⟨rfl, h⟩
  · replace h := h.2 z
    refine WP.iload_n 1 (dg tX1_joinPaces 6 rfl) rfl rfl ?_
    refine WP.iconst (v := 4) (dg tX1_joinPaces 7 rfl) (by decide) ?_
    refine WP.icmp_ge (tgt := 84) (dg tX1_joinPaces 8 rfl) (by decide) (fun z => ?_) (fun z => ?_)
    · replace h := h.1 z
      exact WP.vret rfl (dg tX1_joinPaces 49 rfl) ⟨rfl, h⟩
    · replace h := h.2 z
      refine WP.aload_n 0 (dg tX1_joinPaces 9 rfl) rfl rfl ?_
      refine WP.getF fX1_21 h0.1 (dg tX1_joinPaces 10 rfl) ?_
      refine WP.iload_n 1 (dg tX1_joinPaces 11 rfl) rfl rfl ?_
      obtain ⟨hb20, h⟩ := h
      refine WP.iald h0.2.2.2.2.1 hb20 (dg tX1_joinPaces 12 rfl) ?_
      refine WP.topi (fun v1 e_v1 => ?_)
      have h := h v1 e_v1
      refine WP.istore_n (L2 := [(2, .int v1), (0, .ref x0), (1, .int x1)]) (dg tX1_joinPaces 13 rfl) rfl (by decide) rfl ?_
      refine WP.aload_n 1 (dg tX1_joinPaces 14 rfl) rfl rfl ?_
      refine WP.getF fX1_24 h0.1 (dg tX1_joinPaces 15 rfl) ?_
      refine WP.iload_n 2 (dg tX1_joinPaces 16 rfl) rfl rfl ?_
      obtain ⟨hb27, h⟩ := h
      refine WP.iald h0.2.2.2.2.2.1 hb27 (dg tX1_joinPaces 17 rfl) ?_
      refine WP.topi (fun v2 e_v2 => ?_)
      have h := h v2 e_v2
      refine WP.istore_n (L2 := [(3, .int v2), (2, .int v1), (0, .ref x0), (1, .int x1)]) (dg tX1_joinPaces 18 rfl) rfl (by decide) rfl ?_
      refine WP.aload_n 2 (dg tX1_joinPaces 19 rfl) rfl rfl ?_
      refine WP.iload_n 1 (dg tX1_joinPaces 20 rfl) rfl rfl ?_
      refine WP.callVi (As := [.int v1]) (st := []) vX1_79 h0.1 rfl rfl ⟨Nat.le_of_ble_eq_true rfl, Nat.le_of_ble_eq_true rfl⟩ (Nat.le_of_ble_eq_true rfl) rfl (dg tX1_joinPaces 21 rfl) h (fun v4 M3 h => ?_)
      refine WP.if_eq (tgt := 78) (dg tX1_joinPaces 22 rfl) (by decide) (fun z => ?_) (fun z => ?_)
      · replace h := h.1 z
        obtain ⟨v5, e_v5⟩ : ∃ y : Int32, y = x1 + 1 := ⟨_, rfl⟩
        have h := h v5 e_v5
        refine WP.iinc (v := v5) (L2 := [(1, .int v5), (3, .int v2), (2, .int v1), (0, .ref x0)]) 3 (dg tX1_joinPaces 47 rfl) rfl (by rw [e_v5]; rfl) (by decide) rfl ?_
        refine WP.goto (tgt := 2) (dg tX1_joinPaces 48 rfl) (by decide) ?_
        refine WP.sub [3, 0] rfl ?_
        exact h
      · replace h := h.2 z
        refine WP.aload_n 2 (dg tX1_joinPaces 23 rfl) rfl rfl ?_
        refine WP.iload_n 0 (dg tX1_joinPaces 24 rfl) rfl rfl ?_
        refine WP.callVi (As := [.int v2]) (st := []) vX1_79 h0.1 rfl rfl ⟨Nat.le_of_ble_eq_true rfl, Nat.le_of_ble_eq_true rfl⟩ (Nat.le_of_ble_eq_true rfl) rfl (dg tX1_joinPaces 25 rfl) h (fun v6 M5 h => ?_)
        refine WP.if_eq (tgt := 78) (dg tX1_joinPaces 26 rfl) (by decide) (fun z => ?_) (fun z => ?_)
        · replace h := h.1 z
          obtain ⟨v7, e_v7⟩ : ∃ y : Int32, y = x1 + 1 := ⟨_, rfl⟩
          have h := h v7 e_v7
          refine WP.iinc (v := v7) (L2 := [(1, .int v7), (3, .int v2), (2, .int v1), (0, .ref x0)]) 3 (dg tX1_joinPaces 47 rfl) rfl (by rw [e_v7]; rfl) (by decide) rfl ?_
          refine WP.goto (tgt := 2) (dg tX1_joinPaces 48 rfl) (by decide) ?_
          refine WP.sub [3, 0] rfl ?_
          exact h
        · replace h := h.2 z
          refine WP.aload_n 2 (dg tX1_joinPaces 27 rfl) rfl rfl ?_
          refine WP.getF fX1_15 h0.1 (dg tX1_joinPaces 28 rfl) ?_
          refine WP.iload_n 1 (dg tX1_joinPaces 29 rfl) rfl rfl ?_
          obtain ⟨hb50, h⟩ := h
          refine WP.iald h0.2.2.1 hb50 (dg tX1_joinPaces 30 rfl) ?_
          refine WP.aload_n 2 (dg tX1_joinPaces 31 rfl) rfl rfl ?_
          refine WP.getF fX1_15 h0.1 (dg tX1_joinPaces 32 rfl) ?_
          refine WP.iload_n 0 (dg tX1_joinPaces 33 rfl) rfl rfl ?_
          obtain ⟨hb56, h⟩ := h
          refine WP.iald h0.2.2.1 hb56 (dg tX1_joinPaces 34 rfl) ?_
          refine WP.mmax vX1_83 (by decide) (Nat.le_of_ble_eq_true rfl) (dg tX1_joinPaces 35 rfl) ?_
          refine WP.topi (fun v7 e_v7 => ?_)
          have h := h v7 e_v7
          refine WP.istore (L2 := [(4, .int v7), (3, .int v2), (2, .int v1), (0, .ref x0), (1, .int x1)]) (dg tX1_joinPaces 36 rfl) (by decide) rfl ?_
          refine WP.aload_n 3 (dg tX1_joinPaces 37 rfl) rfl rfl ?_
          refine WP.getF fX1_15 h0.1 (dg tX1_joinPaces 38 rfl) ?_
          refine WP.iload_n 2 (dg tX1_joinPaces 39 rfl) rfl rfl ?_
          refine WP.iload 0 (dg tX1_joinPaces 40 rfl) rfl ?_
          obtain ⟨hb69, h⟩ := h
          refine WP.iast h0.2.2.1 hb69 (dg tX1_joinPaces 41 rfl) (fun M8 e_M8 => ?_)
          have h := h M8 e_M8
          refine WP.aload_n 3 (dg tX1_joinPaces 42 rfl) rfl rfl ?_
          refine WP.getF fX1_15 h0.1 (dg tX1_joinPaces 43 rfl) ?_
          refine WP.iload_n 1 (dg tX1_joinPaces 44 rfl) rfl rfl ?_
          refine WP.iload 0 (dg tX1_joinPaces 45 rfl) rfl ?_
          obtain ⟨hb77, h⟩ := h
          refine WP.iast h0.2.2.1 hb77 (dg tX1_joinPaces 46 rfl) (fun M9 e_M9 => ?_)
          have h := h M9 e_M9
          obtain ⟨v10, e_v10⟩ : ∃ y : Int32, y = x1 + 1 := ⟨_, rfl⟩
          have h := h v10 e_v10
          refine WP.iinc (v := v10) (L2 := [(1, .int v10), (4, .int v7), (3, .int v2), (2, .int v1), (0, .ref x0)]) 4 (dg tX1_joinPaces 47 rfl) rfl (by rw [e_v10]; rfl) (by decide) rfl ?_
          refine WP.goto (tgt := 2) (dg tX1_joinPaces 48 rfl) (by decide) ?_
          refine WP.sub [4, 0] rfl ?_
          exact h
theorem sg_X1_hasPlace_0 {T : Th} {M : Mm} {Q : Int32 → Mm → Prop} {x0 : Nat} {x1 : Int32} (h0 : isX1 T x0)
    (h : (x1 < 0 → Q 0 M) ∧ (¬ x1 < 0 → ((M.1 x0 0) ≤ x1 → Q 0 M) ∧ (¬ (M.1 x0 0) ≤ x1 → (12 ≤ x1 → Q 0 M) ∧ (¬ 12 ≤ x1 → Q 1 M)))) :
    WP T mX1_hasPlace 0 [(0, .ref x0), (1, .int x1)] [] M (qi Q) := by
  refine WP.iload_n 1 (dg tX1_hasPlace 0 rfl) rfl rfl ?_
  refine WP.if_lt (tgt := 22) (dg tX1_hasPlace 1 rfl) (by decide) (fun z => ?_) (fun z => ?_)
  · replace h := h.1 z
    refine WP.iconst (v := 0) (dg tX1_hasPlace 11 rfl) (by decide) ?_
    exact WP.zret rfl (by decide) (dg tX1_hasPlace 12 rfl) ⟨_, rfl, h⟩
  · replace h := h.2 z
    refine WP.iload_n 1 (dg tX1_hasPlace 2 rfl) rfl rfl ?_
    refine WP.aload_n 0 (dg tX1_hasPlace 3 rfl) rfl rfl ?_
    refine WP.getI fX1_37 h0.1 (dg tX1_hasPlace 4 rfl) ?_
    refine WP.icmp_ge (tgt := 22) (dg tX1_hasPlace 5 rfl) (by decide) (fun z => ?_) (fun z => ?_)
    · replace h := h.1 z
      refine WP.iconst (v := 0) (dg tX1_hasPlace 11 rfl) (by decide) ?_
      exact WP.zret rfl (by decide) (dg tX1_hasPlace 12 rfl) ⟨_, rfl, h⟩
    · replace h := h.2 z
      refine WP.iload_n 1 (dg tX1_hasPlace 6 rfl) rfl rfl ?_
      refine WP.bipush (v := 12) (dg tX1_hasPlace 7 rfl) (by decide) ?_
      refine WP.icmp_ge (tgt := 22) (dg tX1_hasPlace 8 rfl) (by decide) (fun z => ?_) (fun z => ?_)
      · replace h := h.1 z
        refine WP.iconst (v := 0) (dg tX1_hasPlace 11 rfl) (by decide) ?_
        exact WP.zret rfl (by decide) (dg tX1_hasPlace 12 rfl) ⟨_, rfl, h⟩
      · replace h := h.2 z
        refine WP.iconst (v := 1) (dg tX1_hasPlace 9 rfl) (by decide) ?_
        refine WP.goto (tgt := 23) (dg tX1_hasPlace 10 rfl) (by decide) ?_
        exact WP.zret rfl (by decide) (dg tX1_hasPlace 12 rfl) ⟨_, rfl, h⟩
theorem sg_X1_hasWagon_0 {T : Th} {M : Mm} {Q : Int32 → Mm → Prop} {x0 : Nat} {x1 : Int32} (h0 : isX1 T x0)
    (h : (x1 < 0 → Q 0 M) ∧ (¬ x1 < 0 → ((M.1 x0 6) ≤ x1 → Q 0 M) ∧ (¬ (M.1 x0 6) ≤ x1 → (5 ≤ x1 → Q 0 M) ∧ (¬ 5 ≤ x1 → Q 1 M)))) :
    WP T mX1_hasWagon 0 [(0, .ref x0), (1, .int x1)] [] M (qi Q) := by
  refine WP.iload_n 1 (dg tX1_hasWagon 0 rfl) rfl rfl ?_
  refine WP.if_lt (tgt := 21) (dg tX1_hasWagon 1 rfl) (by decide) (fun z => ?_) (fun z => ?_)
  · replace h := h.1 z
    refine WP.iconst (v := 0) (dg tX1_hasWagon 11 rfl) (by decide) ?_
    exact WP.zret rfl (by decide) (dg tX1_hasWagon 12 rfl) ⟨_, rfl, h⟩
  · replace h := h.2 z
    refine WP.iload_n 1 (dg tX1_hasWagon 2 rfl) rfl rfl ?_
    refine WP.aload_n 0 (dg tX1_hasWagon 3 rfl) rfl rfl ?_
    refine WP.getI fX1_57 h0.1 (dg tX1_hasWagon 4 rfl) ?_
    refine WP.icmp_ge (tgt := 21) (dg tX1_hasWagon 5 rfl) (by decide) (fun z => ?_) (fun z => ?_)
    · replace h := h.1 z
      refine WP.iconst (v := 0) (dg tX1_hasWagon 11 rfl) (by decide) ?_
      exact WP.zret rfl (by decide) (dg tX1_hasWagon 12 rfl) ⟨_, rfl, h⟩
    · replace h := h.2 z
      refine WP.iload_n 1 (dg tX1_hasWagon 6 rfl) rfl rfl ?_
      refine WP.iconst (v := 5) (dg tX1_hasWagon 7 rfl) (by decide) ?_
      refine WP.icmp_ge (tgt := 21) (dg tX1_hasWagon 8 rfl) (by decide) (fun z => ?_) (fun z => ?_)
      · replace h := h.1 z
        refine WP.iconst (v := 0) (dg tX1_hasWagon 11 rfl) (by decide) ?_
        exact WP.zret rfl (by decide) (dg tX1_hasWagon 12 rfl) ⟨_, rfl, h⟩
      · replace h := h.2 z
        refine WP.iconst (v := 1) (dg tX1_hasWagon 9 rfl) (by decide) ?_
        refine WP.goto (tgt := 22) (dg tX1_hasWagon 10 rfl) (by decide) ?_
        exact WP.zret rfl (by decide) (dg tX1_hasWagon 12 rfl) ⟨_, rfl, h⟩
theorem sg_X1_hasPoints_0 {T : Th} {M : Mm} {Q : Int32 → Mm → Prop} {x0 : Nat} {x1 : Int32} (h0 : isX1 T x0)
    (h : WPi T mX1_placeOf [.ref x0, .int x1] M (fun v2 M1 => (¬ (((M.1 x0 5) >>> (v2 &&& 31)) &&& 1) = 1 → Q 0 M1) ∧ ((((M.1 x0 5) >>> (v2 &&& 31)) &&& 1) = 1 → Q 1 M1))) :
    WP T mX1_hasPoints 0 [(0, .ref x0), (1, .int x1)] [] M (qi Q) := by
  refine WP.aload_n 0 (dg tX1_hasPoints 0 rfl) rfl rfl ?_
  refine WP.getI fX1_54 h0.1 (dg tX1_hasPoints 1 rfl) ?_
  refine WP.aload_n 0 (dg tX1_hasPoints 2 rfl) rfl rfl ?_
  refine WP.iload_n 1 (dg tX1_hasPoints 3 rfl) rfl rfl ?_
  refine WP.callVi (As := [.int x1]) (st := [.int (M.1 x0 5)]) vX1_88 h0.1 rfl rfl ⟨Nat.le_of_ble_eq_true rfl, Nat.le_of_ble_eq_true rfl⟩ (Nat.le_of_ble_eq_true rfl) rfl (dg tX1_hasPoints 4 rfl) h (fun v2 M1 h => ?_)
  refine WP.ishr (dg tX1_hasPoints 5 rfl) ?_
  refine WP.iconst (v := 1) (dg tX1_hasPoints 6 rfl) (by decide) ?_
  refine WP.iand (dg tX1_hasPoints 7 rfl) ?_
  refine WP.iconst (v := 1) (dg tX1_hasPoints 8 rfl) (by decide) ?_
  refine WP.icmp_ne (tgt := 20) (dg tX1_hasPoints 9 rfl) (by decide) (fun z => ?_) (fun z => ?_)
  · replace h := h.1 z
    refine WP.iconst (v := 0) (dg tX1_hasPoints 12 rfl) (by decide) ?_
    exact WP.zret rfl (by decide) (dg tX1_hasPoints 13 rfl) ⟨_, rfl, h⟩
  · replace h := h.2 z
    refine WP.iconst (v := 1) (dg tX1_hasPoints 10 rfl) (by decide) ?_
    refine WP.goto (tgt := 21) (dg tX1_hasPoints 11 rfl) (by decide) ?_
    exact WP.zret rfl (by decide) (dg tX1_hasPoints 13 rfl) ⟨_, rfl, h⟩
theorem sg_X1_placeOf_0 {T : Th} {M : Mm} {Q : Int32 → Mm → Prop} {x0 : Nat} {x1 : Int32} (h0 : isX1 T x0)
    (h : (1 ≤ (M.1 x0 0) → ¬ (M.1 x0 0) = 0 ∧ (Q (x1 - x1 / (M.1 x0 0) * (M.1 x0 0)) M)) ∧ (¬ 1 ≤ (M.1 x0 0) → Q 0 M)) :
    WP T mX1_placeOf 0 [(0, .ref x0), (1, .int x1)] [] M (qi Q) := by
  refine WP.aload_n 0 (dg tX1_placeOf 0 rfl) rfl rfl ?_
  refine WP.getI fX1_37 h0.1 (dg tX1_placeOf 1 rfl) ?_
  refine WP.iconst (v := 1) (dg tX1_placeOf 2 rfl) (by decide) ?_
  refine WP.icmp_ge (tgt := 12) (dg tX1_placeOf 3 rfl) (by decide) (fun z => ?_) (fun z => ?_)
  · replace h := h.1 z
    refine WP.iload_n 1 (dg tX1_placeOf 6 rfl) rfl rfl ?_
    refine WP.aload_n 0 (dg tX1_placeOf 7 rfl) rfl rfl ?_
    refine WP.getI fX1_37 h0.1 (dg tX1_placeOf 8 rfl) ?_
    obtain ⟨hz17, h⟩ := h
    refine WP.irem (dg tX1_placeOf 9 rfl) hz17 ?_
    exact WP.iret rfl (dg tX1_placeOf 10 rfl) ⟨_, rfl, h⟩
  · replace h := h.2 z
    refine WP.iconst (v := 0) (dg tX1_placeOf 4 rfl) (by decide) ?_
    refine WP.goto (tgt := 18) (dg tX1_placeOf 5 rfl) (by decide) ?_
    exact WP.iret rfl (dg tX1_placeOf 10 rfl) ⟨_, rfl, h⟩
theorem sg_X1_minutesFor_0 {T : Th} {M : Mm} {Q : Int32 → Mm → Prop} {x0 : Nat} {x1 : Int32} {x2 : Int32} (h0 : isX1 T x0)
    (h : WPi T mX1_placeOf [.ref x0, .int x2] M (fun v2 M1 => WPi T mX1_hasPlace [.ref x0, .int v2] M1 (fun v4 M3 => (v4 = 0 → WP T mX1_minutesFor 24 [(0, .ref x0), (1, .int x1)] [.int 1] M3 (qi Q)) ∧ (¬ v4 = 0 → vp_in v2 12 ∧ (WP T mX1_minutesFor 24 [(0, .ref x0), (1, .int x1)] [.int (M3.1 (x0 + 1) v2.toNatClampNeg)] M3 (qi Q)))))) :
    WP T mX1_minutesFor 0 [(0, .ref x0), (1, .int x1), (2, .int x2)] [] M (qi Q) := by
  refine WP.aload_n 0 (dg tX1_minutesFor 0 rfl) rfl rfl ?_
  refine WP.iload_n 2 (dg tX1_minutesFor 1 rfl) rfl rfl ?_
  refine WP.callVi (As := [.int x2]) (st := []) vX1_88 h0.1 rfl rfl ⟨Nat.le_of_ble_eq_true rfl, Nat.le_of_ble_eq_true rfl⟩ (Nat.le_of_ble_eq_true rfl) rfl (dg tX1_minutesFor 2 rfl) h (fun v2 M1 h => ?_)
  refine WP.istore_n (L2 := [(3, .int v2), (0, .ref x0), (1, .int x1), (2, .int x2)]) (dg tX1_minutesFor 3 rfl) rfl (by decide) rfl ?_
  refine WP.aload_n 1 (dg tX1_minutesFor 4 rfl) rfl rfl ?_
  refine WP.iload_n 0 (dg tX1_minutesFor 5 rfl) rfl rfl ?_
  refine WP.callVi (As := [.int v2]) (st := []) vX1_92 h0.1 rfl rfl ⟨Nat.le_of_ble_eq_true rfl, Nat.le_of_ble_eq_true rfl⟩ (Nat.le_of_ble_eq_true rfl) rfl (dg tX1_minutesFor 6 rfl) h (fun v4 M3 h => ?_)
  refine WP.if_eq (tgt := 23) (dg tX1_minutesFor 7 rfl) (by decide) (fun z => ?_) (fun z => ?_)
  · replace h := h.1 z
    refine WP.iconst (v := 1) (dg tX1_minutesFor 13 rfl) (by decide) ?_
    refine WP.sub [1, 2] rfl ?_
    exact h
  · replace h := h.2 z
    refine WP.aload_n 1 (dg tX1_minutesFor 8 rfl) rfl rfl ?_
    refine WP.getF fX1_9 h0.1 (dg tX1_minutesFor 9 rfl) ?_
    refine WP.iload_n 0 (dg tX1_minutesFor 10 rfl) rfl rfl ?_
    obtain ⟨hb19, h⟩ := h
    refine WP.iald h0.2.1 hb19 (dg tX1_minutesFor 11 rfl) ?_
    refine WP.goto (tgt := 24) (dg tX1_minutesFor 12 rfl) (by decide) ?_
    refine WP.sub [1, 2] rfl ?_
    exact h
theorem sg_X1_minutesFor_24 {T : Th} {M : Mm} {Q : Int32 → Mm → Prop} {x0 : Nat} {x1 : Int32} {s0 : Int32} (h0 : isX1 T x0)
    (h : WPi T mX1_hasWagon [.ref x0, .int x1] M (fun v2 M1 => (v2 = 0 → Q (s0 + 0) M1) ∧ (¬ v2 = 0 → vp_in x1 5 ∧ (Q (s0 + (M1.1 (x0 + 2) x1.toNatClampNeg)) M1)))) :
    WP T mX1_minutesFor 24 [(0, .ref x0), (1, .int x1)] [.int s0] M (qi Q) := by
  refine WP.aload_n 0 (dg tX1_minutesFor 14 rfl) rfl rfl ?_
  refine WP.iload_n 1 (dg tX1_minutesFor 15 rfl) rfl rfl ?_
  refine WP.callVi (As := [.int x1]) (st := [.int s0]) vX1_79 h0.1 rfl rfl ⟨Nat.le_of_ble_eq_true rfl, Nat.le_of_ble_eq_true rfl⟩ (Nat.le_of_ble_eq_true rfl) rfl (dg tX1_minutesFor 16 rfl) h (fun v2 M1 h => ?_)
  refine WP.if_eq (tgt := 41) (dg tX1_minutesFor 17 rfl) (by decide) (fun z => ?_) (fun z => ?_)
  · replace h := h.1 z
    refine WP.iconst (v := 0) (dg tX1_minutesFor 23 rfl) (by decide) ?_
    refine WP.iadd (dg tX1_minutesFor 24 rfl) ?_
    exact WP.iret rfl (dg tX1_minutesFor 25 rfl) ⟨_, rfl, h⟩
  · replace h := h.2 z
    refine WP.aload_n 0 (dg tX1_minutesFor 18 rfl) rfl rfl ?_
    refine WP.getF fX1_15 h0.1 (dg tX1_minutesFor 19 rfl) ?_
    refine WP.iload_n 1 (dg tX1_minutesFor 20 rfl) rfl rfl ?_
    obtain ⟨hb37, h⟩ := h
    refine WP.iald h0.2.2.1 hb37 (dg tX1_minutesFor 21 rfl) ?_
    refine WP.goto (tgt := 42) (dg tX1_minutesFor 22 rfl) (by decide) ?_
    refine WP.iadd (dg tX1_minutesFor 24 rfl) ?_
    exact WP.iret rfl (dg tX1_minutesFor 25 rfl) ⟨_, rfl, h⟩
theorem sg_X1_sunWay_0 {T : Th} {M : Mm} {Q : Int32 → Mm → Prop} {x0 : Nat} {x1 : Int32} {x2 : Int32} (h0 : isX1 T x0)
    (h : (1 ≤ (M.1 x0 1) → ¬ (M.1 x0 1) = 0 ∧ (Q ((x1 / (M.1 x0 1)) - x2) M)) ∧ (¬ 1 ≤ (M.1 x0 1) → Q (-x2) M)) :
    WP T mX1_sunWay 0 [(0, .ref x0), (1, .int x1), (2, .int x2)] [] M (qi Q) := by
  refine WP.aload_n 0 (dg tX1_sunWay 0 rfl) rfl rfl ?_
  refine WP.getI fX1_41 h0.1 (dg tX1_sunWay 1 rfl) ?_
  refine WP.iconst (v := 1) (dg tX1_sunWay 2 rfl) (by decide) ?_
  refine WP.icmp_ge (tgt := 13) (dg tX1_sunWay 3 rfl) (by decide) (fun z => ?_) (fun z => ?_)
  · replace h := h.1 z
    refine WP.iload_n 1 (dg tX1_sunWay 7 rfl) rfl rfl ?_
    refine WP.aload_n 0 (dg tX1_sunWay 8 rfl) rfl rfl ?_
    refine WP.getI fX1_41 h0.1 (dg tX1_sunWay 9 rfl) ?_
    obtain ⟨hz18, h⟩ := h
    refine WP.idiv (dg tX1_sunWay 10 rfl) hz18 ?_
    refine WP.iload_n 2 (dg tX1_sunWay 11 rfl) rfl rfl ?_
    refine WP.isub (dg tX1_sunWay 12 rfl) ?_
    exact WP.iret rfl (dg tX1_sunWay 13 rfl) ⟨_, rfl, h⟩
  · replace h := h.2 z
    refine WP.iload_n 2 (dg tX1_sunWay 4 rfl) rfl rfl ?_
    refine WP.ineg (dg tX1_sunWay 5 rfl) ?_
    refine WP.goto (tgt := 21) (dg tX1_sunWay 6 rfl) (by decide) ?_
    exact WP.iret rfl (dg tX1_sunWay 13 rfl) ⟨_, rfl, h⟩
theorem sg_X1_isTaken_0 {T : Th} {M : Mm} {Q : Int32 → Mm → Prop} {x0 : Nat} {x1 : Nat} {x2 : Int32} {x3 : Int32} (h0 : isX1 T x0) (h1 : isX2 T x1)
    (h : WP T mX1_isTaken 3 [(0, .ref x0), (1, .ref x1), (2, .int x2), (3, .int x3), (4, .int 0)] [] M (qi Q)) :
    WP T mX1_isTaken 0 [(0, .ref x0), (1, .ref x1), (2, .int x2), (3, .int x3)] [] M (qi Q) := by
  refine WP.iconst (v := 0) (dg tX1_isTaken 0 rfl) (by decide) ?_
  refine WP.istore (L2 := [(4, .int 0), (0, .ref x0), (1, .ref x1), (2, .int x2), (3, .int x3)]) (dg tX1_isTaken 1 rfl) (by decide) rfl ?_
  refine WP.sub [1, 2, 3, 4, 0] rfl ?_
  exact h
theorem sg_X1_isTaken_3 {T : Th} {M : Mm} {Q : Int32 → Mm → Prop} {x0 : Nat} {x1 : Nat} {x2 : Int32} {x3 : Int32} {x4 : Int32} (h0 : isX1 T x0) (h1 : isX2 T x1)
    (h : ((M.1 x0 6) ≤ x4 → Q 0 M) ∧ (¬ (M.1 x0 6) ≤ x4 → (5 ≤ x4 → Q 0 M) ∧ (¬ 5 ≤ x4 → vp_in x4 5 ∧ ((¬ (M.1 (x1 + 1) x4.toNatClampNeg) = x3 → ∀ v1 : Int32, v1 = x4 + 1 → WP T mX1_isTaken 3 [(0, .ref x0), (1, .ref x1), (2, .int x2), (3, .int x3), (4, .int v1)] [] M (qi Q)) ∧ ((M.1 (x1 + 1) x4.toNatClampNeg) = x3 → vp_in x4 5 ∧ ((¬ (M.1 (x1 + 2) x4.toNatClampNeg) = x2 → ∀ v1 : Int32, v1 = x4 + 1 → WP T mX1_isTaken 3 [(0, .ref x0), (1, .ref x1), (2, .int x2), (3, .int x3), (4, .int v1)] [] M (qi Q)) ∧ ((M.1 (x1 + 2) x4.toNatClampNeg) = x2 → Q 1 M))))))) :
    WP T mX1_isTaken 3 [(0, .ref x0), (1, .ref x1), (2, .int x2), (3, .int x3), (4, .int x4)] [] M (qi Q) := by
  refine WP.iload 4 (dg tX1_isTaken 2 rfl) rfl ?_
  refine WP.aload_n 0 (dg tX1_isTaken 3 rfl) rfl rfl ?_
  refine WP.getI fX1_57 h0.1 (dg tX1_isTaken 4 rfl) ?_
  refine WP.icmp_ge (tgt := 48) (dg tX1_isTaken 5 rfl) (by decide) (fun z => ?_) (fun z => ?_)
  · replace h := h.1 z
    refine WP.iconst (v := 0) (dg tX1_isTaken 25 rfl) (by decide) ?_
    exact WP.zret rfl (by decide) (dg tX1_isTaken 26 rfl) ⟨_, rfl, h⟩
  · replace h := h.2 z
    refine WP.iload 4 (dg tX1_isTaken 6 rfl) rfl ?_
    refine WP.iconst (v := 5) (dg tX1_isTaken 7 rfl) (by decide) ?_
    refine WP.icmp_ge (tgt := 48) (dg tX1_isTaken 8 rfl) (by decide) (fun z => ?_) (fun z => ?_)
    · replace h := h.1 z
      refine WP.iconst (v := 0) (dg tX1_isTaken 25 rfl) (by decide) ?_
      exact WP.zret rfl (by decide) (dg tX1_isTaken 26 rfl) ⟨_, rfl, h⟩
    · replace h := h.2 z
      refine WP.aload_n 1 (dg tX1_isTaken 9 rfl) rfl rfl ?_
      refine WP.getF fX1_63 h1.1 (dg tX1_isTaken 10 rfl) ?_
      refine WP.iload 4 (dg tX1_isTaken 11 rfl) rfl ?_
      obtain ⟨hb24, h⟩ := h
      refine WP.iald h1.2.1 hb24 (dg tX1_isTaken 12 rfl) ?_
      refine WP.iload_n 3 (dg tX1_isTaken 13 rfl) rfl rfl ?_
      refine WP.icmp_ne (tgt := 42) (dg tX1_isTaken 14 rfl) (by decide) (fun z => ?_) (fun z => ?_)
      · replace h := h.1 z
        obtain ⟨v1, e_v1⟩ : ∃ y : Int32, y = x4 + 1 := ⟨_, rfl⟩
        have h := h v1 e_v1
        refine WP.iinc (v := v1) (L2 := [(4, .int v1), (0, .ref x0), (1, .ref x1), (2, .int x2), (3, .int x3)]) 4 (dg tX1_isTaken 23 rfl) rfl (by rw [e_v1]; rfl) (by decide) rfl ?_
        refine WP.goto (tgt := 3) (dg tX1_isTaken 24 rfl) (by decide) ?_
        refine WP.sub [1, 2, 3, 4, 0] rfl ?_
        exact h
      · replace h := h.2 z
        refine WP.aload_n 1 (dg tX1_isTaken 15 rfl) rfl rfl ?_
        refine WP.getF fX1_66 h1.1 (dg tX1_isTaken 16 rfl) ?_
        refine WP.iload 4 (dg tX1_isTaken 17 rfl) rfl ?_
        obtain ⟨hb35, h⟩ := h
        refine WP.iald h1.2.2.1 hb35 (dg tX1_isTaken 18 rfl) ?_
        refine WP.iload_n 2 (dg tX1_isTaken 19 rfl) rfl rfl ?_
        refine WP.icmp_ne (tgt := 42) (dg tX1_isTaken 20 rfl) (by decide) (fun z => ?_) (fun z => ?_)
        · replace h := h.1 z
          obtain ⟨v1, e_v1⟩ : ∃ y : Int32, y = x4 + 1 := ⟨_, rfl⟩
          have h := h v1 e_v1
          refine WP.iinc (v := v1) (L2 := [(4, .int v1), (0, .ref x0), (1, .ref x1), (2, .int x2), (3, .int x3)]) 4 (dg tX1_isTaken 23 rfl) rfl (by rw [e_v1]; rfl) (by decide) rfl ?_
          refine WP.goto (tgt := 3) (dg tX1_isTaken 24 rfl) (by decide) ?_
          refine WP.sub [1, 2, 3, 4, 0] rfl ?_
          exact h
        · replace h := h.2 z
          refine WP.iconst (v := 1) (dg tX1_isTaken 21 rfl) (by decide) ?_
          exact WP.zret rfl (by decide) (dg tX1_isTaken 22 rfl) ⟨_, rfl, h⟩
theorem sg_X1_pass_0 {T : Th} {M : Mm} {Q : Int32 → Mm → Prop} {x0 : Nat} {x1 : Nat} (h0 : isX1 T x0) (h1 : isX2 T x1)
    (h : WP T mX1_pass 7 [(0, .ref x0), (1, .ref x1), (2, .int (-1)), (3, .int 0), (4, .int 0)] [] M (qi Q)) :
    WP T mX1_pass 0 [(0, .ref x0), (1, .ref x1)] [] M (qi Q) := by
  refine WP.iconst (v := (-1)) (dg tX1_pass 0 rfl) (by decide) ?_
  refine WP.istore_n (L2 := [(2, .int (-1)), (0, .ref x0), (1, .ref x1)]) (dg tX1_pass 1 rfl) rfl (by decide) rfl ?_
  refine WP.iconst (v := 0) (dg tX1_pass 2 rfl) (by decide) ?_
  refine WP.istore_n (L2 := [(3, .int 0), (2, .int (-1)), (0, .ref x0), (1, .ref x1)]) (dg tX1_pass 3 rfl) rfl (by decide) rfl ?_
  refine WP.iconst (v := 0) (dg tX1_pass 4 rfl) (by decide) ?_
  refine WP.istore (L2 := [(4, .int 0), (3, .int 0), (2, .int (-1)), (0, .ref x0), (1, .ref x1)]) (dg tX1_pass 5 rfl) (by decide) rfl ?_
  refine WP.sub [3, 4, 2, 1, 0] rfl ?_
  exact h
theorem sg_X1_pass_7 {T : Th} {M : Mm} {Q : Int32 → Mm → Prop} {x0 : Nat} {x1 : Nat} {x2 : Int32} {x3 : Int32} {x4 : Int32} (h0 : isX1 T x0) (h1 : isX2 T x1)
    (h : ((M.1 x0 6) ≤ x4 → ∀ M1 : Mm, M1 = sI M x1 0 ((M.1 x1 0) + 1) → WPv T mX1_catchLate [.ref x0, .ref x1] M1 (fun M2 => Q x2 M2)) ∧ (¬ (M.1 x0 6) ≤ x4 → (5 ≤ x4 → ∀ M1 : Mm, M1 = sI M x1 0 ((M.1 x1 0) + 1) → WPv T mX1_catchLate [.ref x0, .ref x1] M1 (fun M2 => Q x2 M2)) ∧ (¬ 5 ≤ x4 → WPi T mX1_foremost [.ref x0, .ref x1, .int x3] M (fun v2 M1 => (v2 = (-1) → ∀ v3 : Int32, v3 = x4 + 1 → WP T mX1_pass 7 [(0, .ref x0), (1, .ref x1), (2, .int x2), (3, .int x3), (4, .int v3)] [] M1 (qi Q)) ∧ (¬ v2 = (-1) → ∀ v3 : Int32, v3 = x3 ||| (1 <<< (v2 &&& 31)) → WPi T mX1_goOn [.ref x0, .ref x1, .int v2] M1 (fun v5 M4 => (¬ v5 = 0 → ∀ v6 : Int32, v6 = x4 + 1 → WP T mX1_pass 7 [(0, .ref x0), (1, .ref x1), (2, .int x2), (3, .int v3), (4, .int v6)] [] M4 (qi Q)) ∧ (v5 = 0 → (¬ x2 = (-1) → ∀ v6 : Int32, v6 = x4 + 1 → WP T mX1_pass 7 [(0, .ref x0), (1, .ref x1), (2, .int x2), (3, .int v3), (4, .int v6)] [] M4 (qi Q)) ∧ (x2 = (-1) → ∀ v6 : Int32, v6 = x4 + 1 → WP T mX1_pass 7 [(0, .ref x0), (1, .ref x1), (2, .int v2), (3, .int v3), (4, .int v6)] [] M4 (qi Q))))))))) :
    WP T mX1_pass 7 [(0, .ref x0), (1, .ref x1), (2, .int x2), (3, .int x3), (4, .int x4)] [] M (qi Q) := by
  refine WP.iload 4 (dg tX1_pass 6 rfl) rfl ?_
  refine WP.aload_n 0 (dg tX1_pass 7 rfl) rfl rfl ?_
  refine WP.getI fX1_57 h0.1 (dg tX1_pass 8 rfl) ?_
  refine WP.icmp_ge (tgt := 67) (dg tX1_pass 9 rfl) (by decide) (fun z => ?_) (fun z => ?_)
  · replace h := h.1 z
    refine WP.aload_n 1 (dg tX1_pass 39 rfl) rfl rfl ?_
    refine WP.dup (dg tX1_pass 40 rfl) rfl ?_
    refine WP.getI fX1_103 h1.1 (dg tX1_pass 41 rfl) ?_
    refine WP.iconst (v := 1) (dg tX1_pass 42 rfl) (by decide) ?_
    refine WP.iadd (dg tX1_pass 43 rfl) ?_
    refine WP.putI fX1_103 h1.1 (dg tX1_pass 44 rfl) (fun M1 e_M1 => ?_)
    have h := h M1 e_M1
    refine WP.aload_n 0 (dg tX1_pass 45 rfl) rfl rfl ?_
    refine WP.aload_n 1 (dg tX1_pass 46 rfl) rfl rfl ?_
    refine WP.callVv (As := [.ref x1]) (st := []) vX1_106 h0.1 rfl rfl ⟨Nat.le_of_ble_eq_true rfl, Nat.le_of_ble_eq_true rfl⟩ (Nat.le_of_ble_eq_true rfl) rfl (dg tX1_pass 47 rfl) h (fun M2 h => ?_)
    refine WP.iload_n 2 (dg tX1_pass 48 rfl) rfl rfl ?_
    exact WP.iret rfl (dg tX1_pass 49 rfl) ⟨_, rfl, h⟩
  · replace h := h.2 z
    refine WP.iload 4 (dg tX1_pass 10 rfl) rfl ?_
    refine WP.iconst (v := 5) (dg tX1_pass 11 rfl) (by decide) ?_
    refine WP.icmp_ge (tgt := 67) (dg tX1_pass 12 rfl) (by decide) (fun z => ?_) (fun z => ?_)
    · replace h := h.1 z
      refine WP.aload_n 1 (dg tX1_pass 39 rfl) rfl rfl ?_
      refine WP.dup (dg tX1_pass 40 rfl) rfl ?_
      refine WP.getI fX1_103 h1.1 (dg tX1_pass 41 rfl) ?_
      refine WP.iconst (v := 1) (dg tX1_pass 42 rfl) (by decide) ?_
      refine WP.iadd (dg tX1_pass 43 rfl) ?_
      refine WP.putI fX1_103 h1.1 (dg tX1_pass 44 rfl) (fun M1 e_M1 => ?_)
      have h := h M1 e_M1
      refine WP.aload_n 0 (dg tX1_pass 45 rfl) rfl rfl ?_
      refine WP.aload_n 1 (dg tX1_pass 46 rfl) rfl rfl ?_
      refine WP.callVv (As := [.ref x1]) (st := []) vX1_106 h0.1 rfl rfl ⟨Nat.le_of_ble_eq_true rfl, Nat.le_of_ble_eq_true rfl⟩ (Nat.le_of_ble_eq_true rfl) rfl (dg tX1_pass 47 rfl) h (fun M2 h => ?_)
      refine WP.iload_n 2 (dg tX1_pass 48 rfl) rfl rfl ?_
      exact WP.iret rfl (dg tX1_pass 49 rfl) ⟨_, rfl, h⟩
    · replace h := h.2 z
      refine WP.aload_n 0 (dg tX1_pass 13 rfl) rfl rfl ?_
      refine WP.aload_n 1 (dg tX1_pass 14 rfl) rfl rfl ?_
      refine WP.iload_n 3 (dg tX1_pass 15 rfl) rfl rfl ?_
      refine WP.callVi (As := [.ref x1, .int x3]) (st := []) vX1_95 h0.1 rfl rfl ⟨Nat.le_of_ble_eq_true rfl, Nat.le_of_ble_eq_true rfl⟩ (Nat.le_of_ble_eq_true rfl) rfl (dg tX1_pass 16 rfl) h (fun v2 M1 h => ?_)
      refine WP.istore (L2 := [(5, .int v2), (0, .ref x0), (1, .ref x1), (2, .int x2), (3, .int x3), (4, .int x4)]) (dg tX1_pass 17 rfl) (by decide) rfl ?_
      refine WP.iload 0 (dg tX1_pass 18 rfl) rfl ?_
      refine WP.iconst (v := (-1)) (dg tX1_pass 19 rfl) (by decide) ?_
      refine WP.icmp_eq (tgt := 61) (dg tX1_pass 20 rfl) (by decide) (fun z => ?_) (fun z => ?_)
      · replace h := h.1 z
        obtain ⟨v3, e_v3⟩ : ∃ y : Int32, y = x4 + 1 := ⟨_, rfl⟩
        have h := h v3 e_v3
        refine WP.iinc (v := v3) (L2 := [(4, .int v3), (5, .int v2), (0, .ref x0), (1, .ref x1), (2, .int x2), (3, .int x3)]) 5 (dg tX1_pass 37 rfl) rfl (by rw [e_v3]; rfl) (by decide) rfl ?_
        refine WP.goto (tgt := 7) (dg tX1_pass 38 rfl) (by decide) ?_
        refine WP.sub [2, 3, 4, 5, 0] rfl ?_
        exact h
      · replace h := h.2 z
        refine WP.iload_n 4 (dg tX1_pass 21 rfl) rfl rfl ?_
        refine WP.iconst (v := 1) (dg tX1_pass 22 rfl) (by decide) ?_
        refine WP.iload 0 (dg tX1_pass 23 rfl) rfl ?_
        refine WP.ishl (dg tX1_pass 24 rfl) ?_
        refine WP.ior (dg tX1_pass 25 rfl) ?_
        refine WP.topi (fun v3 e_v3 => ?_)
        have h := h v3 e_v3
        refine WP.istore_n (L2 := [(3, .int v3), (5, .int v2), (0, .ref x0), (1, .ref x1), (2, .int x2), (4, .int x4)]) (dg tX1_pass 26 rfl) rfl (by decide) rfl ?_
        refine WP.aload_n 2 (dg tX1_pass 27 rfl) rfl rfl ?_
        refine WP.aload_n 3 (dg tX1_pass 28 rfl) rfl rfl ?_
        refine WP.iload 1 (dg tX1_pass 29 rfl) rfl ?_
        refine WP.callVi (As := [.ref x1, .int v2]) (st := []) vX1_99 h0.1 rfl rfl ⟨Nat.le_of_ble_eq_true rfl, Nat.le_of_ble_eq_true rfl⟩ (Nat.le_of_ble_eq_true rfl) rfl (dg tX1_pass 30 rfl) h (fun v5 M4 h => ?_)
        refine WP.if_ne (tgt := 61) (dg tX1_pass 31 rfl) (by decide) (fun z => ?_) (fun z => ?_)
        · replace h := h.1 z
          obtain ⟨v6, e_v6⟩ : ∃ y : Int32, y = x4 + 1 := ⟨_, rfl⟩
          have h := h v6 e_v6
          refine WP.iinc (v := v6) (L2 := [(4, .int v6), (3, .int v3), (5, .int v2), (0, .ref x0), (1, .ref x1), (2, .int x2)]) 5 (dg tX1_pass 37 rfl) rfl (by rw [e_v6]; rfl) (by decide) rfl ?_
          refine WP.goto (tgt := 7) (dg tX1_pass 38 rfl) (by decide) ?_
          refine WP.sub [3, 4, 5, 1, 0] rfl ?_
          exact h
        · replace h := h.2 z
          refine WP.iload_n 4 (dg tX1_pass 32 rfl) rfl rfl ?_
          refine WP.iconst (v := (-1)) (dg tX1_pass 33 rfl) (by decide) ?_
          refine WP.icmp_ne (tgt := 61) (dg tX1_pass 34 rfl) (by decide) (fun z => ?_) (fun z => ?_)
          · replace h := h.1 z
            obtain ⟨v6, e_v6⟩ : ∃ y : Int32, y = x4 + 1 := ⟨_, rfl⟩
            have h := h v6 e_v6
            refine WP.iinc (v := v6) (L2 := [(4, .int v6), (3, .int v3), (5, .int v2), (0, .ref x0), (1, .ref x1), (2, .int x2)]) 5 (dg tX1_pass 37 rfl) rfl (by rw [e_v6]; rfl) (by decide) rfl ?_
            refine WP.goto (tgt := 7) (dg tX1_pass 38 rfl) (by decide) ?_
            refine WP.sub [3, 4, 5, 1, 0] rfl ?_
            exact h
          · replace h := h.2 z
            refine WP.iload 1 (dg tX1_pass 35 rfl) rfl ?_
            refine WP.istore_n (L2 := [(2, .int v2), (3, .int v3), (5, .int v2), (0, .ref x0), (1, .ref x1), (4, .int x4)]) (dg tX1_pass 36 rfl) rfl (by decide) rfl ?_
            obtain ⟨v6, e_v6⟩ : ∃ y : Int32, y = x4 + 1 := ⟨_, rfl⟩
            have h := h v6 e_v6
            refine WP.iinc (v := v6) (L2 := [(4, .int v6), (2, .int v2), (3, .int v3), (5, .int v2), (0, .ref x0), (1, .ref x1)]) 5 (dg tX1_pass 37 rfl) rfl (by rw [e_v6]; rfl) (by decide) rfl ?_
            refine WP.goto (tgt := 7) (dg tX1_pass 38 rfl) (by decide) ?_
            refine WP.sub [4, 5, 1, 2, 0] rfl ?_
            exact h
theorem sg_X1_foremost_0 {T : Th} {M : Mm} {Q : Int32 → Mm → Prop} {x0 : Nat} {x1 : Nat} {x2 : Int32} (h0 : isX1 T x0) (h1 : isX2 T x1)
    (h : WP T mX1_foremost 5 [(0, .ref x0), (1, .ref x1), (2, .int x2), (3, .int (-1)), (4, .int 0)] [] M (qi Q)) :
    WP T mX1_foremost 0 [(0, .ref x0), (1, .ref x1), (2, .int x2)] [] M (qi Q) := by
  refine WP.iconst (v := (-1)) (dg tX1_foremost 0 rfl) (by decide) ?_
  refine WP.istore_n (L2 := [(3, .int (-1)), (0, .ref x0), (1, .ref x1), (2, .int x2)]) (dg tX1_foremost 1 rfl) rfl (by decide) rfl ?_
  refine WP.iconst (v := 0) (dg tX1_foremost 2 rfl) (by decide) ?_
  refine WP.istore (L2 := [(4, .int 0), (3, .int (-1)), (0, .ref x0), (1, .ref x1), (2, .int x2)]) (dg tX1_foremost 3 rfl) (by decide) rfl ?_
  refine WP.sub [2, 3, 4, 1, 0] rfl ?_
  exact h
theorem sg_X1_foremost_5 {T : Th} {M : Mm} {Q : Int32 → Mm → Prop} {x0 : Nat} {x1 : Nat} {x2 : Int32} {x3 : Int32} {x4 : Int32} (h0 : isX1 T x0) (h1 : isX2 T x1)
    (h : ((M.1 x0 6) ≤ x4 → Q x3 M) ∧ (¬ (M.1 x0 6) ≤ x4 → (5 ≤ x4 → Q x3 M) ∧ (¬ 5 ≤ x4 → (¬ ((x2 >>> (x4 &&& 31)) &&& 1) = 0 → ∀ v1 : Int32, v1 = x4 + 1 → WP T mX1_foremost 5 [(0, .ref x0), (1, .ref x1), (2, .int x2), (3, .int x3), (4, .int v1)] [] M (qi Q)) ∧ (((x2 >>> (x4 &&& 31)) &&& 1) = 0 → (x3 = (-1) → ∀ v1 : Int32, v1 = x4 + 1 → WP T mX1_foremost 5 [(0, .ref x0), (1, .ref x1), (2, .int x2), (3, .int x4), (4, .int v1)] [] M (qi Q)) ∧ (¬ x3 = (-1) → vp_in x4 5 ∧ (vp_in x3 5 ∧ (((M.1 (x1 + 1) x4.toNatClampNeg) ≤ (M.1 (x1 + 1) x3.toNatClampNeg) → ∀ v1 : Int32, v1 = x4 + 1 → WP T mX1_foremost 5 [(0, .ref x0), (1, .ref x1), (2, .int x2), (3, .int x3), (4, .int v1)] [] M (qi Q)) ∧ (¬ (M.1 (x1 + 1) x4.toNatClampNeg) ≤ (M.1 (x1 + 1) x3.toNatClampNeg) → ∀ v1 : Int32, v1 = x4 + 1 → WP T mX1_foremost 5 [(0, .ref x0), (1, .ref x1), (2, .int x2), (3, .int x4), (4, .int v1)] [] M (qi Q))))))))) :
    WP T mX1_foremost 5 [(0, .ref x0), (1, .ref x1), (2, .int x2), (3, .int x3), (4, .int x4)] [] M (qi Q) := by
  refine WP.iload 4 (dg tX1_foremost 4 rfl) rfl ?_
  refine WP.aload_n 0 (dg tX1_foremost 5 rfl) rfl rfl ?_
  refine WP.getI fX1_57 h0.1 (dg tX1_foremost 6 rfl) ?_
  refine WP.icmp_ge (tgt := 59) (dg tX1_foremost 7 rfl) (by decide) (fun z => ?_) (fun z => ?_)
  · replace h := h.1 z
    refine WP.iload_n 3 (dg tX1_foremost 33 rfl) rfl rfl ?_
    exact WP.iret rfl (dg tX1_foremost 34 rfl) ⟨_, rfl, h⟩
  · replace h := h.2 z
    refine WP.iload 4 (dg tX1_foremost 8 rfl) rfl ?_
    refine WP.iconst (v := 5) (dg tX1_foremost 9 rfl) (by decide) ?_
    refine WP.icmp_ge (tgt := 59) (dg tX1_foremost 10 rfl) (by decide) (fun z => ?_) (fun z => ?_)
    · replace h := h.1 z
      refine WP.iload_n 3 (dg tX1_foremost 33 rfl) rfl rfl ?_
      exact WP.iret rfl (dg tX1_foremost 34 rfl) ⟨_, rfl, h⟩
    · replace h := h.2 z
      refine WP.iload_n 2 (dg tX1_foremost 11 rfl) rfl rfl ?_
      refine WP.iload 4 (dg tX1_foremost 12 rfl) rfl ?_
      refine WP.ishr (dg tX1_foremost 13 rfl) ?_
      refine WP.iconst (v := 1) (dg tX1_foremost 14 rfl) (by decide) ?_
      refine WP.iand (dg tX1_foremost 15 rfl) ?_
      refine WP.if_ne (tgt := 53) (dg tX1_foremost 16 rfl) (by decide) (fun z => ?_) (fun z => ?_)
      · replace h := h.1 z
        obtain ⟨v1, e_v1⟩ : ∃ y : Int32, y = x4 + 1 := ⟨_, rfl⟩
        have h := h v1 e_v1
        refine WP.iinc (v := v1) (L2 := [(4, .int v1), (0, .ref x0), (1, .ref x1), (2, .int x2), (3, .int x3)]) 4 (dg tX1_foremost 31 rfl) rfl (by rw [e_v1]; rfl) (by decide) rfl ?_
        refine WP.goto (tgt := 5) (dg tX1_foremost 32 rfl) (by decide) ?_
        refine WP.sub [1, 2, 3, 4, 0] rfl ?_
        exact h
      · replace h := h.2 z
        refine WP.iload_n 3 (dg tX1_foremost 17 rfl) rfl rfl ?_
        refine WP.iconst (v := (-1)) (dg tX1_foremost 18 rfl) (by decide) ?_
        refine WP.icmp_eq (tgt := 50) (dg tX1_foremost 19 rfl) (by decide) (fun z => ?_) (fun z => ?_)
        · replace h := h.1 z
          refine WP.iload 4 (dg tX1_foremost 29 rfl) rfl ?_
          refine WP.istore_n (L2 := [(3, .int x4), (0, .ref x0), (1, .ref x1), (2, .int x2), (4, .int x4)]) (dg tX1_foremost 30 rfl) rfl (by decide) rfl ?_
          obtain ⟨v1, e_v1⟩ : ∃ y : Int32, y = x4 + 1 := ⟨_, rfl⟩
          have h := h v1 e_v1
          refine WP.iinc (v := v1) (L2 := [(4, .int v1), (3, .int x4), (0, .ref x0), (1, .ref x1), (2, .int x2)]) 4 (dg tX1_foremost 31 rfl) rfl (by rw [e_v1]; rfl) (by decide) rfl ?_
          refine WP.goto (tgt := 5) (dg tX1_foremost 32 rfl) (by decide) ?_
          refine WP.sub [2, 3, 4, 1, 0] rfl ?_
          exact h
        · replace h := h.2 z
          refine WP.aload_n 1 (dg tX1_foremost 20 rfl) rfl rfl ?_
          refine WP.getF fX1_63 h1.1 (dg tX1_foremost 21 rfl) ?_
          refine WP.iload 4 (dg tX1_foremost 22 rfl) rfl ?_
          obtain ⟨hb40, h⟩ := h
          refine WP.iald h1.2.1 hb40 (dg tX1_foremost 23 rfl) ?_
          refine WP.aload_n 1 (dg tX1_foremost 24 rfl) rfl rfl ?_
          refine WP.getF fX1_63 h1.1 (dg tX1_foremost 25 rfl) ?_
          refine WP.iload_n 3 (dg tX1_foremost 26 rfl) rfl rfl ?_
          obtain ⟨hb46, h⟩ := h
          refine WP.iald h1.2.1 hb46 (dg tX1_foremost 27 rfl) ?_
          refine WP.icmp_le (tgt := 53) (dg tX1_foremost 28 rfl) (by decide) (fun z => ?_) (fun z => ?_)
          · replace h := h.1 z
            obtain ⟨v1, e_v1⟩ : ∃ y : Int32, y = x4 + 1 := ⟨_, rfl⟩
            have h := h v1 e_v1
            refine WP.iinc (v := v1) (L2 := [(4, .int v1), (0, .ref x0), (1, .ref x1), (2, .int x2), (3, .int x3)]) 4 (dg tX1_foremost 31 rfl) rfl (by rw [e_v1]; rfl) (by decide) rfl ?_
            refine WP.goto (tgt := 5) (dg tX1_foremost 32 rfl) (by decide) ?_
            refine WP.sub [1, 2, 3, 4, 0] rfl ?_
            exact h
          · replace h := h.2 z
            refine WP.iload 4 (dg tX1_foremost 29 rfl) rfl ?_
            refine WP.istore_n (L2 := [(3, .int x4), (0, .ref x0), (1, .ref x1), (2, .int x2), (4, .int x4)]) (dg tX1_foremost 30 rfl) rfl (by decide) rfl ?_
            obtain ⟨v1, e_v1⟩ : ∃ y : Int32, y = x4 + 1 := ⟨_, rfl⟩
            have h := h v1 e_v1
            refine WP.iinc (v := v1) (L2 := [(4, .int v1), (3, .int x4), (0, .ref x0), (1, .ref x1), (2, .int x2)]) 4 (dg tX1_foremost 31 rfl) rfl (by rw [e_v1]; rfl) (by decide) rfl ?_
            refine WP.goto (tgt := 5) (dg tX1_foremost 32 rfl) (by decide) ?_
            refine WP.sub [2, 3, 4, 1, 0] rfl ?_
            exact h
theorem sg_X1_goOn_0 {T : Th} {M : Mm} {Q : Int32 → Mm → Prop} {x0 : Nat} {x1 : Nat} {x2 : Int32} (h0 : isX1 T x0) (h1 : isX2 T x1)
    (h : WPi T mX2_isCaught [.ref x1, .int x2] M (fun v2 M1 => (v2 = 0 → vp_in x2 5 ∧ (((M1.1 (x1 + 4) x2.toNatClampNeg) ≤ 0 → vp_in x2 5 ∧ (vp_in x2 5 ∧ (∀ M3 : Mm, M3 = sI M1 (x1 + 3) x2.toNatClampNeg (if 0 < ((M1.1 (x1 + 3) x2.toNatClampNeg) - 1) then ((M1.1 (x1 + 3) x2.toNatClampNeg) - 1) else 0) → vp_in x2 5 ∧ (((M3.1 (x1 + 3) x2.toNatClampNeg) ≤ 0 → vp_in x2 5 ∧ (∀ v4 : Int32, v4 = (M3.1 (x1 + 1) x2.toNatClampNeg) + 1 → vp_in x2 5 ∧ (WPi T mX1_isBarred [.ref x0, .ref x1, .int (M3.1 (x1 + 2) x2.toNatClampNeg), .int v4] M3 (fun v6 M5 => (v6 = 0 → vp_in x2 5 ∧ (∀ M7 : Mm, M7 = sI M5 (x1 + 1) x2.toNatClampNeg v4 → WPi T mX1_minutesFor [.ref x0, .int x2, .int v4] M7 (fun v9 M8 => vp_in x2 5 ∧ (∀ M10 : Mm, M10 = sI M8 (x1 + 3) x2.toNatClampNeg v9 → Q 1 M10)))) ∧ (¬ v6 = 0 → Q 0 M5))))) ∧ (¬ (M3.1 (x1 + 3) x2.toNatClampNeg) ≤ 0 → Q 1 M3))))) ∧ (¬ (M1.1 (x1 + 4) x2.toNatClampNeg) ≤ 0 → vp_in x2 5 ∧ (vp_in x2 5 ∧ (∀ M3 : Mm, M3 = sI M1 (x1 + 4) x2.toNatClampNeg ((M1.1 (x1 + 4) x2.toNatClampNeg) - 1) → vp_in x2 5 ∧ (vp_in x2 5 ∧ (∀ M4 : Mm, M4 = sI M3 (x1 + 5) x2.toNatClampNeg ((M3.1 (x1 + 5) x2.toNatClampNeg) + 1) → Q 1 M4))))))) ∧ (¬ v2 = 0 → Q 1 M1))) :
    WP T mX1_goOn 0 [(0, .ref x0), (1, .ref x1), (2, .int x2)] [] M (qi Q) := by
  refine WP.aload_n 1 (dg tX1_goOn 0 rfl) rfl rfl ?_
  refine WP.iload_n 2 (dg tX1_goOn 1 rfl) rfl rfl ?_
  refine WP.callVi (As := [.int x2]) (st := []) vX1_110 h1.1 rfl rfl ⟨Nat.le_of_ble_eq_true rfl, Nat.le_of_ble_eq_true rfl⟩ (Nat.le_of_ble_eq_true rfl) rfl (dg tX1_goOn 2 rfl) h (fun v2 M1 h => ?_)
  refine WP.if_eq (tgt := 10) (dg tX1_goOn 3 rfl) (by decide) (fun z => ?_) (fun z => ?_)
  · replace h := h.1 z
    refine WP.aload_n 1 (dg tX1_goOn 6 rfl) rfl rfl ?_
    refine WP.getF fX1_113 h1.1 (dg tX1_goOn 7 rfl) ?_
    refine WP.iload_n 2 (dg tX1_goOn 8 rfl) rfl rfl ?_
    obtain ⟨hb15, h⟩ := h
    refine WP.iald h1.2.2.2.2.1 hb15 (dg tX1_goOn 9 rfl) ?_
    refine WP.if_le (tgt := 41) (dg tX1_goOn 10 rfl) (by decide) (fun z => ?_) (fun z => ?_)
    · replace h := h.1 z
      refine WP.aload_n 1 (dg tX1_goOn 29 rfl) rfl rfl ?_
      refine WP.getF fX1_72 h1.1 (dg tX1_goOn 30 rfl) ?_
      refine WP.iload_n 2 (dg tX1_goOn 31 rfl) rfl rfl ?_
      refine WP.iconst (v := 0) (dg tX1_goOn 32 rfl) (by decide) ?_
      refine WP.aload_n 1 (dg tX1_goOn 33 rfl) rfl rfl ?_
      refine WP.getF fX1_72 h1.1 (dg tX1_goOn 34 rfl) ?_
      refine WP.iload_n 2 (dg tX1_goOn 35 rfl) rfl rfl ?_
      obtain ⟨hb52, h⟩ := h
      refine WP.iald h1.2.2.2.1 hb52 (dg tX1_goOn 36 rfl) ?_
      refine WP.iconst (v := 1) (dg tX1_goOn 37 rfl) (by decide) ?_
      refine WP.isub (dg tX1_goOn 38 rfl) ?_
      refine WP.mmax vX1_83 (by decide) (Nat.le_of_ble_eq_true rfl) (dg tX1_goOn 39 rfl) ?_
      obtain ⟨hb58, h⟩ := h
      refine WP.iast h1.2.2.2.1 hb58 (dg tX1_goOn 40 rfl) (fun M3 e_M3 => ?_)
      have h := h M3 e_M3
      refine WP.aload_n 1 (dg tX1_goOn 41 rfl) rfl rfl ?_
      refine WP.getF fX1_72 h1.1 (dg tX1_goOn 42 rfl) ?_
      refine WP.iload_n 2 (dg tX1_goOn 43 rfl) rfl rfl ?_
      obtain ⟨hb64, h⟩ := h
      refine WP.iald h1.2.2.2.1 hb64 (dg tX1_goOn 44 rfl) ?_
      refine WP.if_le (tgt := 70) (dg tX1_goOn 45 rfl) (by decide) (fun z => ?_) (fun z => ?_)
      · replace h := h.1 z
        refine WP.aload_n 1 (dg tX1_goOn 48 rfl) rfl rfl ?_
        refine WP.getF fX1_63 h1.1 (dg tX1_goOn 49 rfl) ?_
        refine WP.iload_n 2 (dg tX1_goOn 50 rfl) rfl rfl ?_
        obtain ⟨hb75, h⟩ := h
        refine WP.iald h1.2.1 hb75 (dg tX1_goOn 51 rfl) ?_
        refine WP.iconst (v := 1) (dg tX1_goOn 52 rfl) (by decide) ?_
        refine WP.iadd (dg tX1_goOn 53 rfl) ?_
        refine WP.topi (fun v4 e_v4 => ?_)
        have h := h v4 e_v4
        refine WP.istore_n (L2 := [(3, .int v4), (0, .ref x0), (1, .ref x1), (2, .int x2)]) (dg tX1_goOn 54 rfl) rfl (by decide) rfl ?_
        refine WP.aload_n 1 (dg tX1_goOn 55 rfl) rfl rfl ?_
        refine WP.aload_n 2 (dg tX1_goOn 56 rfl) rfl rfl ?_
        refine WP.aload_n 2 (dg tX1_goOn 57 rfl) rfl rfl ?_
        refine WP.getF fX1_66 h1.1 (dg tX1_goOn 58 rfl) ?_
        refine WP.iload_n 3 (dg tX1_goOn 59 rfl) rfl rfl ?_
        obtain ⟨hb86, h⟩ := h
        refine WP.iald h1.2.2.1 hb86 (dg tX1_goOn 60 rfl) ?_
        refine WP.iload_n 0 (dg tX1_goOn 61 rfl) rfl rfl ?_
        refine WP.callVi (As := [.ref x1, .int (M3.1 (x1 + 2) x2.toNatClampNeg), .int v4]) (st := []) vX1_119 h0.1 rfl rfl ⟨Nat.le_of_ble_eq_true rfl, Nat.le_of_ble_eq_true rfl⟩ (Nat.le_of_ble_eq_true rfl) rfl (dg tX1_goOn 62 rfl) h (fun v6 M5 h => ?_)
        refine WP.if_eq (tgt := 96) (dg tX1_goOn 63 rfl) (by decide) (fun z => ?_) (fun z => ?_)
        · replace h := h.1 z
          refine WP.aload_n 2 (dg tX1_goOn 66 rfl) rfl rfl ?_
          refine WP.getF fX1_63 h1.1 (dg tX1_goOn 67 rfl) ?_
          refine WP.iload_n 3 (dg tX1_goOn 68 rfl) rfl rfl ?_
          refine WP.iload_n 0 (dg tX1_goOn 69 rfl) rfl rfl ?_
          obtain ⟨hb102, h⟩ := h
          refine WP.iast h1.2.1 hb102 (dg tX1_goOn 70 rfl) (fun M7 e_M7 => ?_)
          have h := h M7 e_M7
          refine WP.aload_n 2 (dg tX1_goOn 71 rfl) rfl rfl ?_
          refine WP.getF fX1_72 h1.1 (dg tX1_goOn 72 rfl) ?_
          refine WP.iload_n 3 (dg tX1_goOn 73 rfl) rfl rfl ?_
          refine WP.aload_n 1 (dg tX1_goOn 74 rfl) rfl rfl ?_
          refine WP.iload_n 3 (dg tX1_goOn 75 rfl) rfl rfl ?_
          refine WP.iload_n 0 (dg tX1_goOn 76 rfl) rfl rfl ?_
          refine WP.callVi (As := [.int x2, .int v4]) (st := [.int x2, .ref (x1 + 3)]) vX1_75 h0.1 rfl rfl ⟨Nat.le_of_ble_eq_true rfl, Nat.le_of_ble_eq_true rfl⟩ (Nat.le_of_ble_eq_true rfl) rfl (dg tX1_goOn 77 rfl) h (fun v9 M8 h => ?_)
          obtain ⟨hb114, h⟩ := h
          refine WP.iast h1.2.2.2.1 hb114 (dg tX1_goOn 78 rfl) (fun M10 e_M10 => ?_)
          have h := h M10 e_M10
          refine WP.iconst (v := 1) (dg tX1_goOn 79 rfl) (by decide) ?_
          exact WP.zret rfl (by decide) (dg tX1_goOn 80 rfl) ⟨_, rfl, h⟩
        · replace h := h.2 z
          refine WP.iconst (v := 0) (dg tX1_goOn 64 rfl) (by decide) ?_
          exact WP.zret rfl (by decide) (dg tX1_goOn 65 rfl) ⟨_, rfl, h⟩
      · replace h := h.2 z
        refine WP.iconst (v := 1) (dg tX1_goOn 46 rfl) (by decide) ?_
        exact WP.zret rfl (by decide) (dg tX1_goOn 47 rfl) ⟨_, rfl, h⟩
    · replace h := h.2 z
      refine WP.aload_n 1 (dg tX1_goOn 11 rfl) rfl rfl ?_
      refine WP.getF fX1_113 h1.1 (dg tX1_goOn 12 rfl) ?_
      refine WP.iload_n 2 (dg tX1_goOn 13 rfl) rfl rfl ?_
      refine WP.dup2 (dg tX1_goOn 14 rfl) rfl rfl ?_
      obtain ⟨hb25, h⟩ := h
      refine WP.iald h1.2.2.2.2.1 hb25 (dg tX1_goOn 15 rfl) ?_
      refine WP.iconst (v := 1) (dg tX1_goOn 16 rfl) (by decide) ?_
      refine WP.isub (dg tX1_goOn 17 rfl) ?_
      obtain ⟨hb28, h⟩ := h
      refine WP.iast h1.2.2.2.2.1 hb28 (dg tX1_goOn 18 rfl) (fun M3 e_M3 => ?_)
      have h := h M3 e_M3
      refine WP.aload_n 1 (dg tX1_goOn 19 rfl) rfl rfl ?_
      refine WP.getF fX1_116 h1.1 (dg tX1_goOn 20 rfl) ?_
      refine WP.iload_n 2 (dg tX1_goOn 21 rfl) rfl rfl ?_
      refine WP.dup2 (dg tX1_goOn 22 rfl) rfl rfl ?_
      obtain ⟨hb35, h⟩ := h
      refine WP.iald h1.2.2.2.2.2 hb35 (dg tX1_goOn 23 rfl) ?_
      refine WP.iconst (v := 1) (dg tX1_goOn 24 rfl) (by decide) ?_
      refine WP.iadd (dg tX1_goOn 25 rfl) ?_
      obtain ⟨hb38, h⟩ := h
      refine WP.iast h1.2.2.2.2.2 hb38 (dg tX1_goOn 26 rfl) (fun M4 e_M4 => ?_)
      have h := h M4 e_M4
      refine WP.iconst (v := 1) (dg tX1_goOn 27 rfl) (by decide) ?_
      exact WP.zret rfl (by decide) (dg tX1_goOn 28 rfl) ⟨_, rfl, h⟩
  · replace h := h.2 z
    refine WP.iconst (v := 1) (dg tX1_goOn 4 rfl) (by decide) ?_
    exact WP.zret rfl (by decide) (dg tX1_goOn 5 rfl) ⟨_, rfl, h⟩
theorem sg_X1_isBarred_0 {T : Th} {M : Mm} {Q : Int32 → Mm → Prop} {x0 : Nat} {x1 : Nat} {x2 : Int32} {x3 : Int32} (h0 : isX1 T x0) (h1 : isX2 T x1)
    (h : WPi T mX1_placeOf [.ref x0, .int x3] M (fun v2 M1 => (¬ v2 = (M1.1 x0 4) → WP T mX1_isBarred 22 [(0, .ref x0), (1, .ref x1), (2, .int x2), (3, .int x3), (4, .int 0), (5, .int 0)] [] M1 (qi Q)) ∧ (v2 = (M1.1 x0 4) → WP T mX1_isBarred 22 [(0, .ref x0), (1, .ref x1), (2, .int x2), (3, .int x3), (4, .int 1), (5, .int 0)] [] M1 (qi Q)))) :
    WP T mX1_isBarred 0 [(0, .ref x0), (1, .ref x1), (2, .int x2), (3, .int x3)] [] M (qi Q) := by
  refine WP.aload_n 0 (dg tX1_isBarred 0 rfl) rfl rfl ?_
  refine WP.iload_n 3 (dg tX1_isBarred 1 rfl) rfl rfl ?_
  refine WP.callVi (As := [.int x3]) (st := []) vX1_88 h0.1 rfl rfl ⟨Nat.le_of_ble_eq_true rfl, Nat.le_of_ble_eq_true rfl⟩ (Nat.le_of_ble_eq_true rfl) rfl (dg tX1_isBarred 2 rfl) h (fun v2 M1 h => ?_)
  refine WP.aload_n 0 (dg tX1_isBarred 3 rfl) rfl rfl ?_
  refine WP.getI fX1_51 h0.1 (dg tX1_isBarred 4 rfl) ?_
  refine WP.icmp_ne (tgt := 16) (dg tX1_isBarred 5 rfl) (by decide) (fun z => ?_) (fun z => ?_)
  · replace h := h.1 z
    refine WP.iconst (v := 0) (dg tX1_isBarred 8 rfl) (by decide) ?_
    refine WP.istore (L2 := [(4, .int 0), (0, .ref x0), (1, .ref x1), (2, .int x2), (3, .int x3)]) (dg tX1_isBarred 9 rfl) (by decide) rfl ?_
    refine WP.iconst (v := 0) (dg tX1_isBarred 10 rfl) (by decide) ?_
    refine WP.istore (L2 := [(5, .int 0), (4, .int 0), (0, .ref x0), (1, .ref x1), (2, .int x2), (3, .int x3)]) (dg tX1_isBarred 11 rfl) (by decide) rfl ?_
    refine WP.sub [2, 3, 4, 5, 1, 0] rfl ?_
    exact h
  · replace h := h.2 z
    refine WP.iconst (v := 1) (dg tX1_isBarred 6 rfl) (by decide) ?_
    refine WP.goto (tgt := 17) (dg tX1_isBarred 7 rfl) (by decide) ?_
    refine WP.istore (L2 := [(4, .int 1), (0, .ref x0), (1, .ref x1), (2, .int x2), (3, .int x3)]) (dg tX1_isBarred 9 rfl) (by decide) rfl ?_
    refine WP.iconst (v := 0) (dg tX1_isBarred 10 rfl) (by decide) ?_
    refine WP.istore (L2 := [(5, .int 0), (4, .int 1), (0, .ref x0), (1, .ref x1), (2, .int x2), (3, .int x3)]) (dg tX1_isBarred 11 rfl) (by decide) rfl ?_
    refine WP.sub [2, 3, 4, 5, 1, 0] rfl ?_
    exact h
theorem sg_X1_isBarred_22 {T : Th} {M : Mm} {Q : Int32 → Mm → Prop} {x0 : Nat} {x1 : Nat} {x2 : Int32} {x3 : Int32} {x4 : Int32} {x5 : Int32} (h0 : isX1 T x0) (h1 : isX2 T x1)
    (h : ((M.1 x0 6) ≤ x5 → Q 0 M) ∧ (¬ (M.1 x0 6) ≤ x5 → (5 ≤ x5 → Q 0 M) ∧ (¬ 5 ≤ x5 → vp_in x5 5 ∧ ((¬ (M.1 (x1 + 1) x5.toNatClampNeg) = x3 → ∀ v1 : Int32, v1 = x5 + 1 → WP T mX1_isBarred 22 [(0, .ref x0), (1, .ref x1), (2, .int x2), (3, .int x3), (4, .int x4), (5, .int v1)] [] M (qi Q)) ∧ ((M.1 (x1 + 1) x5.toNatClampNeg) = x3 → (¬ x4 = 0 → Q 1 M) ∧ (x4 = 0 → vp_in x5 5 ∧ ((¬ (M.1 (x1 + 2) x5.toNatClampNeg) = x2 → ∀ v1 : Int32, v1 = x5 + 1 → WP T mX1_isBarred 22 [(0, .ref x0), (1, .ref x1), (2, .int x2), (3, .int x3), (4, .int x4), (5, .int v1)] [] M (qi Q)) ∧ ((M.1 (x1 + 2) x5.toNatClampNeg) = x2 → Q 1 M)))))))) :
    WP T mX1_isBarred 22 [(0, .ref x0), (1, .ref x1), (2, .int x2), (3, .int x3), (4, .int x4), (5, .int x5)] [] M (qi Q) := by
  refine WP.iload 5 (dg tX1_isBarred 12 rfl) rfl ?_
  refine WP.aload_n 0 (dg tX1_isBarred 13 rfl) rfl rfl ?_
  refine WP.getI fX1_57 h0.1 (dg tX1_isBarred 14 rfl) ?_
  refine WP.icmp_ge (tgt := 72) (dg tX1_isBarred 15 rfl) (by decide) (fun z => ?_) (fun z => ?_)
  · replace h := h.1 z
    refine WP.iconst (v := 0) (dg tX1_isBarred 37 rfl) (by decide) ?_
    exact WP.zret rfl (by decide) (dg tX1_isBarred 38 rfl) ⟨_, rfl, h⟩
  · replace h := h.2 z
    refine WP.iload 5 (dg tX1_isBarred 16 rfl) rfl ?_
    refine WP.iconst (v := 5) (dg tX1_isBarred 17 rfl) (by decide) ?_
    refine WP.icmp_ge (tgt := 72) (dg tX1_isBarred 18 rfl) (by decide) (fun z => ?_) (fun z => ?_)
    · replace h := h.1 z
      refine WP.iconst (v := 0) (dg tX1_isBarred 37 rfl) (by decide) ?_
      exact WP.zret rfl (by decide) (dg tX1_isBarred 38 rfl) ⟨_, rfl, h⟩
    · replace h := h.2 z
      refine WP.aload_n 1 (dg tX1_isBarred 19 rfl) rfl rfl ?_
      refine WP.getF fX1_63 h1.1 (dg tX1_isBarred 20 rfl) ?_
      refine WP.iload 5 (dg tX1_isBarred 21 rfl) rfl ?_
      obtain ⟨hb43, h⟩ := h
      refine WP.iald h1.2.1 hb43 (dg tX1_isBarred 22 rfl) ?_
      refine WP.iload_n 3 (dg tX1_isBarred 23 rfl) rfl rfl ?_
      refine WP.icmp_ne (tgt := 66) (dg tX1_isBarred 24 rfl) (by decide) (fun z => ?_) (fun z => ?_)
      · replace h := h.1 z
        obtain ⟨v1, e_v1⟩ : ∃ y : Int32, y = x5 + 1 := ⟨_, rfl⟩
        have h := h v1 e_v1
        refine WP.iinc (v := v1) (L2 := [(5, .int v1), (0, .ref x0), (1, .ref x1), (2, .int x2), (3, .int x3), (4, .int x4)]) 5 (dg tX1_isBarred 35 rfl) rfl (by rw [e_v1]; rfl) (by decide) rfl ?_
        refine WP.goto (tgt := 22) (dg tX1_isBarred 36 rfl) (by decide) ?_
        refine WP.sub [1, 2, 3, 4, 5, 0] rfl ?_
        exact h
      · replace h := h.2 z
        refine WP.iload 4 (dg tX1_isBarred 25 rfl) rfl ?_
        refine WP.if_ne (tgt := 64) (dg tX1_isBarred 26 rfl) (by decide) (fun z => ?_) (fun z => ?_)
        · replace h := h.1 z
          refine WP.iconst (v := 1) (dg tX1_isBarred 33 rfl) (by decide) ?_
          exact WP.zret rfl (by decide) (dg tX1_isBarred 34 rfl) ⟨_, rfl, h⟩
        · replace h := h.2 z
          refine WP.aload_n 1 (dg tX1_isBarred 27 rfl) rfl rfl ?_
          refine WP.getF fX1_66 h1.1 (dg tX1_isBarred 28 rfl) ?_
          refine WP.iload 5 (dg tX1_isBarred 29 rfl) rfl ?_
          obtain ⟨hb59, h⟩ := h
          refine WP.iald h1.2.2.1 hb59 (dg tX1_isBarred 30 rfl) ?_
          refine WP.iload_n 2 (dg tX1_isBarred 31 rfl) rfl rfl ?_
          refine WP.icmp_ne (tgt := 66) (dg tX1_isBarred 32 rfl) (by decide) (fun z => ?_) (fun z => ?_)
          · replace h := h.1 z
            obtain ⟨v1, e_v1⟩ : ∃ y : Int32, y = x5 + 1 := ⟨_, rfl⟩
            have h := h v1 e_v1
            refine WP.iinc (v := v1) (L2 := [(5, .int v1), (0, .ref x0), (1, .ref x1), (2, .int x2), (3, .int x3), (4, .int x4)]) 5 (dg tX1_isBarred 35 rfl) rfl (by rw [e_v1]; rfl) (by decide) rfl ?_
            refine WP.goto (tgt := 22) (dg tX1_isBarred 36 rfl) (by decide) ?_
            refine WP.sub [1, 2, 3, 4, 5, 0] rfl ?_
            exact h
          · replace h := h.2 z
            refine WP.iconst (v := 1) (dg tX1_isBarred 33 rfl) (by decide) ?_
            exact WP.zret rfl (by decide) (dg tX1_isBarred 34 rfl) ⟨_, rfl, h⟩
theorem sg_X1_catchLate_0 {T : Th} {M : Mm} {Q : Mm → Prop} {x0 : Nat} {x1 : Nat} (h0 : isX1 T x0) (h1 : isX2 T x1)
    (h : WPi T mX1_sunWay [.ref x0, .int (M.1 x1 0), .int (M.1 x0 2)] M (fun v2 M1 => WP T mX1_catchLate 15 [(0, .ref x0), (1, .ref x1), (2, .int v2), (3, .int 0)] [] M1 (qv Q))) :
    WP T mX1_catchLate 0 [(0, .ref x0), (1, .ref x1)] [] M (qv Q) := by
  refine WP.aload_n 0 (dg tX1_catchLate 0 rfl) rfl rfl ?_
  refine WP.aload_n 1 (dg tX1_catchLate 1 rfl) rfl rfl ?_
  refine WP.getI fX1_103 h1.1 (dg tX1_catchLate 2 rfl) ?_
  refine WP.aload_n 0 (dg tX1_catchLate 3 rfl) rfl rfl ?_
  refine WP.getI fX1_44 h0.1 (dg tX1_catchLate 4 rfl) ?_
  refine WP.callVi (As := [.int (M.1 x1 0), .int (M.1 x0 2)]) (st := []) vX1_123 h0.1 rfl rfl ⟨Nat.le_of_ble_eq_true rfl, Nat.le_of_ble_eq_true rfl⟩ (Nat.le_of_ble_eq_true rfl) rfl (dg tX1_catchLate 5 rfl) h (fun v2 M1 h => ?_)
  refine WP.istore_n (L2 := [(2, .int v2), (0, .ref x0), (1, .ref x1)]) (dg tX1_catchLate 6 rfl) rfl (by decide) rfl ?_
  refine WP.iconst (v := 0) (dg tX1_catchLate 7 rfl) (by decide) ?_
  refine WP.istore_n (L2 := [(3, .int 0), (2, .int v2), (0, .ref x0), (1, .ref x1)]) (dg tX1_catchLate 8 rfl) rfl (by decide) rfl ?_
  refine WP.sub [2, 3, 1, 0] rfl ?_
  exact h
theorem sg_X1_catchLate_15 {T : Th} {M : Mm} {Q : Mm → Prop} {x0 : Nat} {x1 : Nat} {x2 : Int32} {x3 : Int32} (h0 : isX1 T x0) (h1 : isX2 T x1)
    (h : ((M.1 x0 6) ≤ x3 → Q M) ∧ (¬ (M.1 x0 6) ≤ x3 → (5 ≤ x3 → Q M) ∧ (¬ 5 ≤ x3 → vp_in x3 5 ∧ ((x2 < (M.1 (x1 + 1) x3.toNatClampNeg) → ∀ v1 : Int32, v1 = x3 + 1 → WP T mX1_catchLate 15 [(0, .ref x0), (1, .ref x1), (2, .int x2), (3, .int v1)] [] M (qv Q)) ∧ (¬ x2 < (M.1 (x1 + 1) x3.toNatClampNeg) → ∀ M1 : Mm, M1 = sI M x1 1 ((M.1 x1 1) ||| (1 <<< (x3 &&& 31))) → ∀ v2 : Int32, v2 = x3 + 1 → WP T mX1_catchLate 15 [(0, .ref x0), (1, .ref x1), (2, .int x2), (3, .int v2)] [] M1 (qv Q)))))) :
    WP T mX1_catchLate 15 [(0, .ref x0), (1, .ref x1), (2, .int x2), (3, .int x3)] [] M (qv Q) := by
  refine WP.iload_n 3 (dg tX1_catchLate 9 rfl) rfl rfl ?_
  refine WP.aload_n 0 (dg tX1_catchLate 10 rfl) rfl rfl ?_
  refine WP.getI fX1_57 h0.1 (dg tX1_catchLate 11 rfl) ?_
  refine WP.icmp_ge (tgt := 56) (dg tX1_catchLate 12 rfl) (by decide) (fun z => ?_) (fun z => ?_)
  · replace h := h.1 z
    exact WP.vret rfl (dg tX1_catchLate 32 rfl) ⟨rfl, h⟩
  · replace h := h.2 z
    refine WP.iload_n 3 (dg tX1_catchLate 13 rfl) rfl rfl ?_
    refine WP.iconst (v := 5) (dg tX1_catchLate 14 rfl) (by decide) ?_
    refine WP.icmp_ge (tgt := 56) (dg tX1_catchLate 15 rfl) (by decide) (fun z => ?_) (fun z => ?_)
    · replace h := h.1 z
      exact WP.vret rfl (dg tX1_catchLate 32 rfl) ⟨rfl, h⟩
    · replace h := h.2 z
      refine WP.aload_n 1 (dg tX1_catchLate 16 rfl) rfl rfl ?_
      refine WP.getF fX1_63 h1.1 (dg tX1_catchLate 17 rfl) ?_
      refine WP.iload_n 3 (dg tX1_catchLate 18 rfl) rfl rfl ?_
      obtain ⟨hb33, h⟩ := h
      refine WP.iald h1.2.1 hb33 (dg tX1_catchLate 19 rfl) ?_
      refine WP.iload_n 2 (dg tX1_catchLate 20 rfl) rfl rfl ?_
      refine WP.icmp_gt (tgt := 50) (dg tX1_catchLate 21 rfl) (by decide) (fun z => ?_) (fun z => ?_)
      · replace h := h.1 z
        obtain ⟨v1, e_v1⟩ : ∃ y : Int32, y = x3 + 1 := ⟨_, rfl⟩
        have h := h v1 e_v1
        refine WP.iinc (v := v1) (L2 := [(3, .int v1), (0, .ref x0), (1, .ref x1), (2, .int x2)]) 3 (dg tX1_catchLate 30 rfl) rfl (by rw [e_v1]; rfl) (by decide) rfl ?_
        refine WP.goto (tgt := 15) (dg tX1_catchLate 31 rfl) (by decide) ?_
        refine WP.sub [1, 2, 3, 0] rfl ?_
        exact h
      · replace h := h.2 z
        refine WP.aload_n 1 (dg tX1_catchLate 22 rfl) rfl rfl ?_
        refine WP.dup (dg tX1_catchLate 23 rfl) rfl ?_
        refine WP.getI fX1_126 h1.1 (dg tX1_catchLate 24 rfl) ?_
        refine WP.iconst (v := 1) (dg tX1_catchLate 25 rfl) (by decide) ?_
        refine WP.iload_n 3 (dg tX1_catchLate 26 rfl) rfl rfl ?_
        refine WP.ishl (dg tX1_catchLate 27 rfl) ?_
        refine WP.ior (dg tX1_catchLate 28 rfl) ?_
        refine WP.putI fX1_126 h1.1 (dg tX1_catchLate 29 rfl) (fun M1 e_M1 => ?_)
        have h := h M1 e_M1
        obtain ⟨v2, e_v2⟩ : ∃ y : Int32, y = x3 + 1 := ⟨_, rfl⟩
        have h := h v2 e_v2
        refine WP.iinc (v := v2) (L2 := [(3, .int v2), (0, .ref x0), (1, .ref x1), (2, .int x2)]) 3 (dg tX1_catchLate 30 rfl) rfl (by rw [e_v2]; rfl) (by decide) rfl ?_
        refine WP.goto (tgt := 15) (dg tX1_catchLate 31 rfl) (by decide) ?_
        refine WP.sub [1, 2, 3, 0] rfl ?_
        exact h
theorem sg_X1_withWorkDone_0 {T : Th} {M : Mm} {Q : Int32 → Mm → Prop} {x0 : Nat} {x1 : Nat} (h0 : isX1 T x0) (h1 : isX2 T x1)
    (h : WP T mX1_withWorkDone 4 [(0, .ref x0), (1, .ref x1), (2, .int 0), (3, .int 0)] [] M (qi Q)) :
    WP T mX1_withWorkDone 0 [(0, .ref x0), (1, .ref x1)] [] M (qi Q) := by
  refine WP.iconst (v := 0) (dg tX1_withWorkDone 0 rfl) (by decide) ?_
  refine WP.istore_n (L2 := [(2, .int 0), (0, .ref x0), (1, .ref x1)]) (dg tX1_withWorkDone 1 rfl) rfl (by decide) rfl ?_
  refine WP.iconst (v := 0) (dg tX1_withWorkDone 2 rfl) (by decide) ?_
  refine WP.istore_n (L2 := [(3, .int 0), (2, .int 0), (0, .ref x0), (1, .ref x1)]) (dg tX1_withWorkDone 3 rfl) rfl (by decide) rfl ?_
  refine WP.sub [2, 3, 1, 0] rfl ?_
  exact h
theorem sg_X1_withWorkDone_4 {T : Th} {M : Mm} {Q : Int32 → Mm → Prop} {x0 : Nat} {x1 : Nat} {x2 : Int32} {x3 : Int32} (h0 : isX1 T x0) (h1 : isX2 T x1)
    (h : ((M.1 x0 6) ≤ x3 → Q x2 M) ∧ (¬ (M.1 x0 6) ≤ x3 → (5 ≤ x3 → Q x2 M) ∧ (¬ 5 ≤ x3 → vp_in x3 5 ∧ (vp_in x3 5 ∧ (((M.1 (x1 + 5) x3.toNatClampNeg) < (M.1 (x0 + 3) x3.toNatClampNeg) → ∀ v1 : Int32, v1 = x3 + 1 → WP T mX1_withWorkDone 4 [(0, .ref x0), (1, .ref x1), (2, .int x2), (3, .int v1)] [] M (qi Q)) ∧ (¬ (M.1 (x1 + 5) x3.toNatClampNeg) < (M.1 (x0 + 3) x3.toNatClampNeg) → ∀ v1 : Int32, v1 = x2 ||| (1 <<< (x3 &&& 31)) → ∀ v2 : Int32, v2 = x3 + 1 → WP T mX1_withWorkDone 4 [(0, .ref x0), (1, .ref x1), (2, .int v1), (3, .int v2)] [] M (qi Q))))))) :
    WP T mX1_withWorkDone 4 [(0, .ref x0), (1, .ref x1), (2, .int x2), (3, .int x3)] [] M (qi Q) := by
  refine WP.iload_n 3 (dg tX1_withWorkDone 4 rfl) rfl rfl ?_
  refine WP.aload_n 0 (dg tX1_withWorkDone 5 rfl) rfl rfl ?_
  refine WP.getI fX1_57 h0.1 (dg tX1_withWorkDone 6 rfl) ?_
  refine WP.icmp_ge (tgt := 44) (dg tX1_withWorkDone 7 rfl) (by decide) (fun z => ?_) (fun z => ?_)
  · replace h := h.1 z
    refine WP.iload_n 2 (dg tX1_withWorkDone 28 rfl) rfl rfl ?_
    exact WP.iret rfl (dg tX1_withWorkDone 29 rfl) ⟨_, rfl, h⟩
  · replace h := h.2 z
    refine WP.iload_n 3 (dg tX1_withWorkDone 8 rfl) rfl rfl ?_
    refine WP.iconst (v := 5) (dg tX1_withWorkDone 9 rfl) (by decide) ?_
    refine WP.icmp_ge (tgt := 44) (dg tX1_withWorkDone 10 rfl) (by decide) (fun z => ?_) (fun z => ?_)
    · replace h := h.1 z
      refine WP.iload_n 2 (dg tX1_withWorkDone 28 rfl) rfl rfl ?_
      exact WP.iret rfl (dg tX1_withWorkDone 29 rfl) ⟨_, rfl, h⟩
    · replace h := h.2 z
      refine WP.aload_n 1 (dg tX1_withWorkDone 11 rfl) rfl rfl ?_
      refine WP.getF fX1_116 h1.1 (dg tX1_withWorkDone 12 rfl) ?_
      refine WP.iload_n 3 (dg tX1_withWorkDone 13 rfl) rfl rfl ?_
      obtain ⟨hb22, h⟩ := h
      refine WP.iald h1.2.2.2.2.2 hb22 (dg tX1_withWorkDone 14 rfl) ?_
      refine WP.aload_n 0 (dg tX1_withWorkDone 15 rfl) rfl rfl ?_
      refine WP.getF fX1_18 h0.1 (dg tX1_withWorkDone 16 rfl) ?_
      refine WP.iload_n 3 (dg tX1_withWorkDone 17 rfl) rfl rfl ?_
      obtain ⟨hb28, h⟩ := h
      refine WP.iald h0.2.2.2.1 hb28 (dg tX1_withWorkDone 18 rfl) ?_
      refine WP.icmp_lt (tgt := 38) (dg tX1_withWorkDone 19 rfl) (by decide) (fun z => ?_) (fun z => ?_)
      · replace h := h.1 z
        obtain ⟨v1, e_v1⟩ : ∃ y : Int32, y = x3 + 1 := ⟨_, rfl⟩
        have h := h v1 e_v1
        refine WP.iinc (v := v1) (L2 := [(3, .int v1), (0, .ref x0), (1, .ref x1), (2, .int x2)]) 3 (dg tX1_withWorkDone 26 rfl) rfl (by rw [e_v1]; rfl) (by decide) rfl ?_
        refine WP.goto (tgt := 4) (dg tX1_withWorkDone 27 rfl) (by decide) ?_
        refine WP.sub [1, 2, 3, 0] rfl ?_
        exact h
      · replace h := h.2 z
        refine WP.iload_n 2 (dg tX1_withWorkDone 20 rfl) rfl rfl ?_
        refine WP.iconst (v := 1) (dg tX1_withWorkDone 21 rfl) (by decide) ?_
        refine WP.iload_n 3 (dg tX1_withWorkDone 22 rfl) rfl rfl ?_
        refine WP.ishl (dg tX1_withWorkDone 23 rfl) ?_
        refine WP.ior (dg tX1_withWorkDone 24 rfl) ?_
        refine WP.topi (fun v1 e_v1 => ?_)
        have h := h v1 e_v1
        refine WP.istore_n (L2 := [(2, .int v1), (0, .ref x0), (1, .ref x1), (3, .int x3)]) (dg tX1_withWorkDone 25 rfl) rfl (by decide) rfl ?_
        obtain ⟨v2, e_v2⟩ : ∃ y : Int32, y = x3 + 1 := ⟨_, rfl⟩
        have h := h v2 e_v2
        refine WP.iinc (v := v2) (L2 := [(3, .int v2), (2, .int v1), (0, .ref x0), (1, .ref x1)]) 3 (dg tX1_withWorkDone 26 rfl) rfl (by rw [e_v2]; rfl) (by decide) rfl ?_
        refine WP.goto (tgt := 4) (dg tX1_withWorkDone 27 rfl) (by decide) ?_
        refine WP.sub [2, 3, 1, 0] rfl ?_
        exact h
theorem sg_X1_wagonsAt_0 {T : Th} {M : Mm} {Q : Int32 → Mm → Prop} {x0 : Nat} {x1 : Nat} {x2 : Int32} (h0 : isX1 T x0) (h1 : isX2 T x1)
    (h : WP T mX1_wagonsAt 5 [(0, .ref x0), (1, .ref x1), (2, .int x2), (3, .int 0), (4, .int 0)] [] M (qi Q)) :
    WP T mX1_wagonsAt 0 [(0, .ref x0), (1, .ref x1), (2, .int x2)] [] M (qi Q) := by
  refine WP.iconst (v := 0) (dg tX1_wagonsAt 0 rfl) (by decide) ?_
  refine WP.istore_n (L2 := [(3, .int 0), (0, .ref x0), (1, .ref x1), (2, .int x2)]) (dg tX1_wagonsAt 1 rfl) rfl (by decide) rfl ?_
  refine WP.iconst (v := 0) (dg tX1_wagonsAt 2 rfl) (by decide) ?_
  refine WP.istore (L2 := [(4, .int 0), (3, .int 0), (0, .ref x0), (1, .ref x1), (2, .int x2)]) (dg tX1_wagonsAt 3 rfl) (by decide) rfl ?_
  refine WP.sub [2, 3, 4, 1, 0] rfl ?_
  exact h
theorem sg_X1_wagonsAt_5 {T : Th} {M : Mm} {Q : Int32 → Mm → Prop} {x0 : Nat} {x1 : Nat} {x2 : Int32} {x3 : Int32} {x4 : Int32} (h0 : isX1 T x0) (h1 : isX2 T x1)
    (h : ((M.1 x0 6) ≤ x4 → Q x3 M) ∧ (¬ (M.1 x0 6) ≤ x4 → (5 ≤ x4 → Q x3 M) ∧ (¬ 5 ≤ x4 → vp_in x4 5 ∧ (WPi T mX1_placeOf [.ref x0, .int (M.1 (x1 + 1) x4.toNatClampNeg)] M (fun v2 M1 => (¬ v2 = x2 → ∀ v3 : Int32, v3 = x4 + 1 → WP T mX1_wagonsAt 5 [(0, .ref x0), (1, .ref x1), (2, .int x2), (3, .int x3), (4, .int v3)] [] M1 (qi Q)) ∧ (v2 = x2 → ∀ v3 : Int32, v3 = x3 ||| (1 <<< (x4 &&& 31)) → ∀ v4 : Int32, v4 = x4 + 1 → WP T mX1_wagonsAt 5 [(0, .ref x0), (1, .ref x1), (2, .int x2), (3, .int v3), (4, .int v4)] [] M1 (qi Q))))))) :
    WP T mX1_wagonsAt 5 [(0, .ref x0), (1, .ref x1), (2, .int x2), (3, .int x3), (4, .int x4)] [] M (qi Q) := by
  refine WP.iload 4 (dg tX1_wagonsAt 4 rfl) rfl ?_
  refine WP.aload_n 0 (dg tX1_wagonsAt 5 rfl) rfl rfl ?_
  refine WP.getI fX1_57 h0.1 (dg tX1_wagonsAt 6 rfl) ?_
  refine WP.icmp_ge (tgt := 48) (dg tX1_wagonsAt 7 rfl) (by decide) (fun z => ?_) (fun z => ?_)
  · replace h := h.1 z
    refine WP.iload_n 3 (dg tX1_wagonsAt 27 rfl) rfl rfl ?_
    exact WP.iret rfl (dg tX1_wagonsAt 28 rfl) ⟨_, rfl, h⟩
  · replace h := h.2 z
    refine WP.iload 4 (dg tX1_wagonsAt 8 rfl) rfl ?_
    refine WP.iconst (v := 5) (dg tX1_wagonsAt 9 rfl) (by decide) ?_
    refine WP.icmp_ge (tgt := 48) (dg tX1_wagonsAt 10 rfl) (by decide) (fun z => ?_) (fun z => ?_)
    · replace h := h.1 z
      refine WP.iload_n 3 (dg tX1_wagonsAt 27 rfl) rfl rfl ?_
      exact WP.iret rfl (dg tX1_wagonsAt 28 rfl) ⟨_, rfl, h⟩
    · replace h := h.2 z
      refine WP.aload_n 0 (dg tX1_wagonsAt 11 rfl) rfl rfl ?_
      refine WP.aload_n 1 (dg tX1_wagonsAt 12 rfl) rfl rfl ?_
      refine WP.getF fX1_63 h1.1 (dg tX1_wagonsAt 13 rfl) ?_
      refine WP.iload 4 (dg tX1_wagonsAt 14 rfl) rfl ?_
      obtain ⟨hb27, h⟩ := h
      refine WP.iald h1.2.1 hb27 (dg tX1_wagonsAt 15 rfl) ?_
      refine WP.callVi (As := [.int (M.1 (x1 + 1) x4.toNatClampNeg)]) (st := []) vX1_88 h0.1 rfl rfl ⟨Nat.le_of_ble_eq_true rfl, Nat.le_of_ble_eq_true rfl⟩ (Nat.le_of_ble_eq_true rfl) rfl (dg tX1_wagonsAt 16 rfl) h (fun v2 M1 h => ?_)
      refine WP.iload_n 2 (dg tX1_wagonsAt 17 rfl) rfl rfl ?_
      refine WP.icmp_ne (tgt := 42) (dg tX1_wagonsAt 18 rfl) (by decide) (fun z => ?_) (fun z => ?_)
      · replace h := h.1 z
        obtain ⟨v3, e_v3⟩ : ∃ y : Int32, y = x4 + 1 := ⟨_, rfl⟩
        have h := h v3 e_v3
        refine WP.iinc (v := v3) (L2 := [(4, .int v3), (0, .ref x0), (1, .ref x1), (2, .int x2), (3, .int x3)]) 4 (dg tX1_wagonsAt 25 rfl) rfl (by rw [e_v3]; rfl) (by decide) rfl ?_
        refine WP.goto (tgt := 5) (dg tX1_wagonsAt 26 rfl) (by decide) ?_
        refine WP.sub [1, 2, 3, 4, 0] rfl ?_
        exact h
      · replace h := h.2 z
        refine WP.iload_n 3 (dg tX1_wagonsAt 19 rfl) rfl rfl ?_
        refine WP.iconst (v := 1) (dg tX1_wagonsAt 20 rfl) (by decide) ?_
        refine WP.iload 4 (dg tX1_wagonsAt 21 rfl) rfl ?_
        refine WP.ishl (dg tX1_wagonsAt 22 rfl) ?_
        refine WP.ior (dg tX1_wagonsAt 23 rfl) ?_
        refine WP.topi (fun v3 e_v3 => ?_)
        have h := h v3 e_v3
        refine WP.istore_n (L2 := [(3, .int v3), (0, .ref x0), (1, .ref x1), (2, .int x2), (4, .int x4)]) (dg tX1_wagonsAt 24 rfl) rfl (by decide) rfl ?_
        obtain ⟨v4, e_v4⟩ : ∃ y : Int32, y = x4 + 1 := ⟨_, rfl⟩
        have h := h v4 e_v4
        refine WP.iinc (v := v4) (L2 := [(4, .int v4), (3, .int v3), (0, .ref x0), (1, .ref x1), (2, .int x2)]) 4 (dg tX1_wagonsAt 25 rfl) rfl (by rw [e_v4]; rfl) (by decide) rfl ?_
        refine WP.goto (tgt := 5) (dg tX1_wagonsAt 26 rfl) (by decide) ?_
        refine WP.sub [2, 3, 4, 1, 0] rfl ?_
        exact h
theorem sg_X1_lengthOn_0 {T : Th} {M : Mm} {Q : Int32 → Mm → Prop} {x0 : Nat} {x1 : Nat} {x2 : Int32} (h0 : isX1 T x0) (h1 : isX2 T x1)
    (h : WP T mX1_lengthOn 8 [(0, .ref x0), (1, .ref x1), (2, .int x2), (3, .int (-1)), (4, .int (-1)), (5, .int 0)] [] M (qi Q)) :
    WP T mX1_lengthOn 0 [(0, .ref x0), (1, .ref x1), (2, .int x2)] [] M (qi Q) := by
  refine WP.iconst (v := (-1)) (dg tX1_lengthOn 0 rfl) (by decide) ?_
  refine WP.istore_n (L2 := [(3, .int (-1)), (0, .ref x0), (1, .ref x1), (2, .int x2)]) (dg tX1_lengthOn 1 rfl) rfl (by decide) rfl ?_
  refine WP.iconst (v := (-1)) (dg tX1_lengthOn 2 rfl) (by decide) ?_
  refine WP.istore (L2 := [(4, .int (-1)), (3, .int (-1)), (0, .ref x0), (1, .ref x1), (2, .int x2)]) (dg tX1_lengthOn 3 rfl) (by decide) rfl ?_
  refine WP.iconst (v := 0) (dg tX1_lengthOn 4 rfl) (by decide) ?_
  refine WP.istore (L2 := [(5, .int 0), (4, .int (-1)), (3, .int (-1)), (0, .ref x0), (1, .ref x1), (2, .int x2)]) (dg tX1_lengthOn 5 rfl) (by decide) rfl ?_
  refine WP.sub [3, 4, 5, 2, 1, 0] rfl ?_
  exact h
theorem sg_X1_lengthOn_8 {T : Th} {M : Mm} {Q : Int32 → Mm → Prop} {x0 : Nat} {x1 : Nat} {x2 : Int32} {x3 : Int32} {x4 : Int32} {x5 : Int32} (h0 : isX1 T x0) (h1 : isX2 T x1)
    (h : ((M.1 x0 6) ≤ x5 → (¬ x3 = (-1) → Q ((x4 - x3) + 1) M) ∧ (x3 = (-1) → Q 0 M)) ∧ (¬ (M.1 x0 6) ≤ x5 → (5 ≤ x5 → (¬ x3 = (-1) → Q ((x4 - x3) + 1) M) ∧ (x3 = (-1) → Q 0 M)) ∧ (¬ 5 ≤ x5 → vp_in x5 5 ∧ ((¬ (M.1 (x1 + 2) x5.toNatClampNeg) = x2 → ∀ v1 : Int32, v1 = x5 + 1 → WP T mX1_lengthOn 8 [(0, .ref x0), (1, .ref x1), (2, .int x2), (3, .int x3), (4, .int x4), (5, .int v1)] [] M (qi Q)) ∧ ((M.1 (x1 + 2) x5.toNatClampNeg) = x2 → (¬ x3 = (-1) → vp_in x5 5 ∧ (∀ v1 : Int32, v1 = (if (M.1 (x1 + 1) x5.toNatClampNeg) < x3 then (M.1 (x1 + 1) x5.toNatClampNeg) else x3) → vp_in x5 5 ∧ (∀ v2 : Int32, v2 = (if x4 < (M.1 (x1 + 1) x5.toNatClampNeg) then (M.1 (x1 + 1) x5.toNatClampNeg) else x4) → ∀ v3 : Int32, v3 = x5 + 1 → WP T mX1_lengthOn 8 [(0, .ref x0), (1, .ref x1), (2, .int x2), (3, .int v1), (4, .int v2), (5, .int v3)] [] M (qi Q)))) ∧ (x3 = (-1) → vp_in x5 5 ∧ (∀ v1 : Int32, v1 = M.1 (x1 + 1) x5.toNatClampNeg → vp_in x5 5 ∧ (∀ v2 : Int32, v2 = (if x4 < (M.1 (x1 + 1) x5.toNatClampNeg) then (M.1 (x1 + 1) x5.toNatClampNeg) else x4) → ∀ v3 : Int32, v3 = x5 + 1 → WP T mX1_lengthOn 8 [(0, .ref x0), (1, .ref x1), (2, .int x2), (3, .int v1), (4, .int v2), (5, .int v3)] [] M (qi Q))))))))) :
    WP T mX1_lengthOn 8 [(0, .ref x0), (1, .ref x1), (2, .int x2), (3, .int x3), (4, .int x4), (5, .int x5)] [] M (qi Q) := by
  refine WP.iload 5 (dg tX1_lengthOn 6 rfl) rfl ?_
  refine WP.aload_n 0 (dg tX1_lengthOn 7 rfl) rfl rfl ?_
  refine WP.getI fX1_57 h0.1 (dg tX1_lengthOn 8 rfl) ?_
  refine WP.icmp_ge (tgt := 81) (dg tX1_lengthOn 9 rfl) (by decide) (fun z => ?_) (fun z => ?_)
  · replace h := h.1 z
    refine WP.iload_n 3 (dg tX1_lengthOn 43 rfl) rfl rfl ?_
    refine WP.iconst (v := (-1)) (dg tX1_lengthOn 44 rfl) (by decide) ?_
    refine WP.icmp_ne (tgt := 90) (dg tX1_lengthOn 45 rfl) (by decide) (fun z => ?_) (fun z => ?_)
    · replace h := h.1 z
      refine WP.iload 4 (dg tX1_lengthOn 48 rfl) rfl ?_
      refine WP.iload_n 3 (dg tX1_lengthOn 49 rfl) rfl rfl ?_
      refine WP.isub (dg tX1_lengthOn 50 rfl) ?_
      refine WP.iconst (v := 1) (dg tX1_lengthOn 51 rfl) (by decide) ?_
      refine WP.iadd (dg tX1_lengthOn 52 rfl) ?_
      exact WP.iret rfl (dg tX1_lengthOn 53 rfl) ⟨_, rfl, h⟩
    · replace h := h.2 z
      refine WP.iconst (v := 0) (dg tX1_lengthOn 46 rfl) (by decide) ?_
      refine WP.goto (tgt := 96) (dg tX1_lengthOn 47 rfl) (by decide) ?_
      exact WP.iret rfl (dg tX1_lengthOn 53 rfl) ⟨_, rfl, h⟩
  · replace h := h.2 z
    refine WP.iload 5 (dg tX1_lengthOn 10 rfl) rfl ?_
    refine WP.iconst (v := 5) (dg tX1_lengthOn 11 rfl) (by decide) ?_
    refine WP.icmp_ge (tgt := 81) (dg tX1_lengthOn 12 rfl) (by decide) (fun z => ?_) (fun z => ?_)
    · replace h := h.1 z
      refine WP.iload_n 3 (dg tX1_lengthOn 43 rfl) rfl rfl ?_
      refine WP.iconst (v := (-1)) (dg tX1_lengthOn 44 rfl) (by decide) ?_
      refine WP.icmp_ne (tgt := 90) (dg tX1_lengthOn 45 rfl) (by decide) (fun z => ?_) (fun z => ?_)
      · replace h := h.1 z
        refine WP.iload 4 (dg tX1_lengthOn 48 rfl) rfl ?_
        refine WP.iload_n 3 (dg tX1_lengthOn 49 rfl) rfl rfl ?_
        refine WP.isub (dg tX1_lengthOn 50 rfl) ?_
        refine WP.iconst (v := 1) (dg tX1_lengthOn 51 rfl) (by decide) ?_
        refine WP.iadd (dg tX1_lengthOn 52 rfl) ?_
        exact WP.iret rfl (dg tX1_lengthOn 53 rfl) ⟨_, rfl, h⟩
      · replace h := h.2 z
        refine WP.iconst (v := 0) (dg tX1_lengthOn 46 rfl) (by decide) ?_
        refine WP.goto (tgt := 96) (dg tX1_lengthOn 47 rfl) (by decide) ?_
        exact WP.iret rfl (dg tX1_lengthOn 53 rfl) ⟨_, rfl, h⟩
    · replace h := h.2 z
      refine WP.aload_n 1 (dg tX1_lengthOn 13 rfl) rfl rfl ?_
      refine WP.getF fX1_66 h1.1 (dg tX1_lengthOn 14 rfl) ?_
      refine WP.iload 5 (dg tX1_lengthOn 15 rfl) rfl ?_
      obtain ⟨hb29, h⟩ := h
      refine WP.iald h1.2.2.1 hb29 (dg tX1_lengthOn 16 rfl) ?_
      refine WP.iload_n 2 (dg tX1_lengthOn 17 rfl) rfl rfl ?_
      refine WP.icmp_ne (tgt := 75) (dg tX1_lengthOn 18 rfl) (by decide) (fun z => ?_) (fun z => ?_)
      · replace h := h.1 z
        obtain ⟨v1, e_v1⟩ : ∃ y : Int32, y = x5 + 1 := ⟨_, rfl⟩
        have h := h v1 e_v1
        refine WP.iinc (v := v1) (L2 := [(5, .int v1), (0, .ref x0), (1, .ref x1), (2, .int x2), (3, .int x3), (4, .int x4)]) 5 (dg tX1_lengthOn 41 rfl) rfl (by rw [e_v1]; rfl) (by decide) rfl ?_
        refine WP.goto (tgt := 8) (dg tX1_lengthOn 42 rfl) (by decide) ?_
        refine WP.sub [1, 2, 3, 4, 5, 0] rfl ?_
        exact h
      · replace h := h.2 z
        refine WP.iload_n 3 (dg tX1_lengthOn 19 rfl) rfl rfl ?_
        refine WP.iconst (v := (-1)) (dg tX1_lengthOn 20 rfl) (by decide) ?_
        refine WP.icmp_ne (tgt := 49) (dg tX1_lengthOn 21 rfl) (by decide) (fun z => ?_) (fun z => ?_)
        · replace h := h.1 z
          refine WP.iload_n 3 (dg tX1_lengthOn 27 rfl) rfl rfl ?_
          refine WP.aload_n 1 (dg tX1_lengthOn 28 rfl) rfl rfl ?_
          refine WP.getF fX1_63 h1.1 (dg tX1_lengthOn 29 rfl) ?_
          refine WP.iload 5 (dg tX1_lengthOn 30 rfl) rfl ?_
          obtain ⟨hb56, h⟩ := h
          refine WP.iald h1.2.1 hb56 (dg tX1_lengthOn 31 rfl) ?_
          refine WP.mmin vX1_129 (by decide) (Nat.le_of_ble_eq_true rfl) (dg tX1_lengthOn 32 rfl) ?_
          refine WP.topi (fun v1 e_v1 => ?_)
          have h := h v1 e_v1
          refine WP.istore_n (L2 := [(3, .int v1), (0, .ref x0), (1, .ref x1), (2, .int x2), (4, .int x4), (5, .int x5)]) (dg tX1_lengthOn 33 rfl) rfl (by decide) rfl ?_
          refine WP.iload 4 (dg tX1_lengthOn 34 rfl) rfl ?_
          refine WP.aload_n 2 (dg tX1_lengthOn 35 rfl) rfl rfl ?_
          refine WP.getF fX1_63 h1.1 (dg tX1_lengthOn 36 rfl) ?_
          refine WP.iload 5 (dg tX1_lengthOn 37 rfl) rfl ?_
          obtain ⟨hb69, h⟩ := h
          refine WP.iald h1.2.1 hb69 (dg tX1_lengthOn 38 rfl) ?_
          refine WP.mmax vX1_83 (by decide) (Nat.le_of_ble_eq_true rfl) (dg tX1_lengthOn 39 rfl) ?_
          refine WP.topi (fun v2 e_v2 => ?_)
          have h := h v2 e_v2
          refine WP.istore (L2 := [(4, .int v2), (3, .int v1), (0, .ref x0), (1, .ref x1), (2, .int x2), (5, .int x5)]) (dg tX1_lengthOn 40 rfl) (by decide) rfl ?_
          obtain ⟨v3, e_v3⟩ : ∃ y : Int32, y = x5 + 1 := ⟨_, rfl⟩
          have h := h v3 e_v3
          refine WP.iinc (v := v3) (L2 := [(5, .int v3), (4, .int v2), (3, .int v1), (0, .ref x0), (1, .ref x1), (2, .int x2)]) 5 (dg tX1_lengthOn 41 rfl) rfl (by rw [e_v3]; rfl) (by decide) rfl ?_
          refine WP.goto (tgt := 8) (dg tX1_lengthOn 42 rfl) (by decide) ?_
          refine WP.sub [3, 4, 5, 2, 1, 0] rfl ?_
          exact h
        · replace h := h.2 z
          refine WP.aload_n 1 (dg tX1_lengthOn 22 rfl) rfl rfl ?_
          refine WP.getF fX1_63 h1.1 (dg tX1_lengthOn 23 rfl) ?_
          refine WP.iload 5 (dg tX1_lengthOn 24 rfl) rfl ?_
          obtain ⟨hb45, h⟩ := h
          refine WP.iald h1.2.1 hb45 (dg tX1_lengthOn 25 rfl) ?_
          refine WP.goto (tgt := 60) (dg tX1_lengthOn 26 rfl) (by decide) ?_
          refine WP.topi (fun v1 e_v1 => ?_)
          have h := h v1 e_v1
          refine WP.istore_n (L2 := [(3, .int v1), (0, .ref x0), (1, .ref x1), (2, .int x2), (4, .int x4), (5, .int x5)]) (dg tX1_lengthOn 33 rfl) rfl (by decide) rfl ?_
          refine WP.iload 4 (dg tX1_lengthOn 34 rfl) rfl ?_
          refine WP.aload_n 2 (dg tX1_lengthOn 35 rfl) rfl rfl ?_
          refine WP.getF fX1_63 h1.1 (dg tX1_lengthOn 36 rfl) ?_
          refine WP.iload 5 (dg tX1_lengthOn 37 rfl) rfl ?_
          obtain ⟨hb69, h⟩ := h
          refine WP.iald h1.2.1 hb69 (dg tX1_lengthOn 38 rfl) ?_
          refine WP.mmax vX1_83 (by decide) (Nat.le_of_ble_eq_true rfl) (dg tX1_lengthOn 39 rfl) ?_
          refine WP.topi (fun v2 e_v2 => ?_)
          have h := h v2 e_v2
          refine WP.istore (L2 := [(4, .int v2), (3, .int v1), (0, .ref x0), (1, .ref x1), (2, .int x2), (5, .int x5)]) (dg tX1_lengthOn 40 rfl) (by decide) rfl ?_
          obtain ⟨v3, e_v3⟩ : ∃ y : Int32, y = x5 + 1 := ⟨_, rfl⟩
          have h := h v3 e_v3
          refine WP.iinc (v := v3) (L2 := [(5, .int v3), (4, .int v2), (3, .int v1), (0, .ref x0), (1, .ref x1), (2, .int x2)]) 5 (dg tX1_lengthOn 41 rfl) rfl (by rw [e_v3]; rfl) (by decide) rfl ?_
          refine WP.goto (tgt := 8) (dg tX1_lengthOn 42 rfl) (by decide) ?_
          refine WP.sub [3, 4, 5, 2, 1, 0] rfl ?_
          exact h
theorem sg_X3_gatherNone_0 {T : Th} {M : Mm} {Q : Mm → Prop} {x0 : Nat} (h0 : isX3 T x0)
    (h : ∀ M1 : Mm, M1 = sI M x0 0 0 → ∀ M2 : Mm, M2 = sI M1 x0 1 (-1) → Q M2) :
    WP T mX3_gatherNone 0 [(0, .ref x0)] [] M (qv Q) := by
  refine WP.aload_n 0 (dg tX3_gatherNone 0 rfl) rfl rfl ?_
  refine WP.iconst (v := 0) (dg tX3_gatherNone 1 rfl) (by decide) ?_
  refine WP.putI fX3_21 h0.1 (dg tX3_gatherNone 2 rfl) (fun M1 e_M1 => ?_)
  have h := h M1 e_M1
  refine WP.aload_n 0 (dg tX3_gatherNone 3 rfl) rfl rfl ?_
  refine WP.iconst (v := (-1)) (dg tX3_gatherNone 4 rfl) (by decide) ?_
  refine WP.putI fX3_25 h0.1 (dg tX3_gatherNone 5 rfl) (fun M2 e_M2 => ?_)
  have h := h M2 e_M2
  exact WP.vret rfl (dg tX3_gatherNone 6 rfl) ⟨rfl, h⟩
theorem sg_X3_gather_0 {T : Th} {M : Mm} {Q : Mm → Prop} {x0 : Nat} {x1 : Nat} {x2 : Nat} (h0 : isX3 T x0) (h1 : isX1 T x1) (h2 : isX2 T x2)
    (h : WPv T mX3_gatherNone [.ref x0] M (fun M1 => WP T mX3_gather 6 [(0, .ref x0), (1, .ref x1), (2, .ref x2), (3, .int 0)] [] M1 (qv Q))) :
    WP T mX3_gather 0 [(0, .ref x0), (1, .ref x1), (2, .ref x2)] [] M (qv Q) := by
  refine WP.aload_n 0 (dg tX3_gather 0 rfl) rfl rfl ?_
  refine WP.callVv (As := []) (st := []) vX3_28 h0.1 rfl rfl ⟨Nat.le_of_ble_eq_true rfl, Nat.le_of_ble_eq_true rfl⟩ (Nat.le_of_ble_eq_true rfl) rfl (dg tX3_gather 1 rfl) h (fun M1 h => ?_)
  refine WP.iconst (v := 0) (dg tX3_gather 2 rfl) (by decide) ?_
  refine WP.istore_n (L2 := [(3, .int 0), (0, .ref x0), (1, .ref x1), (2, .ref x2)]) (dg tX3_gather 3 rfl) rfl (by decide) rfl ?_
  refine WP.sub [1, 2, 3, 0] rfl ?_
  exact h
theorem sg_X3_gather_6 {T : Th} {M : Mm} {Q : Mm → Prop} {x0 : Nat} {x1 : Nat} {x2 : Nat} {x3 : Int32} (h0 : isX3 T x0) (h1 : isX1 T x1) (h2 : isX2 T x2)
    (h : ((M.1 x1 6) ≤ x3 → Q M) ∧ (¬ (M.1 x1 6) ≤ x3 → (5 ≤ x3 → Q M) ∧ (¬ 5 ≤ x3 → (3 ≤ (M.1 x0 0) → Q M) ∧ (¬ 3 ≤ (M.1 x0 0) → vp_in x3 5 ∧ (vp_in x3 5 ∧ (vp_in x3 5 ∧ (∀ v1 : Int32, v1 = ((M.1 (x1 + 3) x3.toNatClampNeg) - (M.1 (x2 + 5) x3.toNatClampNeg)) - (M.1 (x2 + 4) x3.toNatClampNeg) → (v1 ≤ 0 → ∀ v2 : Int32, v2 = x3 + 1 → WP T mX3_gather 6 [(0, .ref x0), (1, .ref x1), (2, .ref x2), (3, .int v2)] [] M (qv Q)) ∧ (¬ v1 ≤ 0 → WPi T mX2_isCaught [.ref x2, .int x3] M (fun v3 M2 => (¬ v3 = 0 → ∀ v4 : Int32, v4 = x3 + 1 → WP T mX3_gather 6 [(0, .ref x0), (1, .ref x1), (2, .ref x2), (3, .int v4)] [] M2 (qv Q)) ∧ (v3 = 0 → vp_in (M2.1 x0 0) 3 ∧ (∀ M4 : Mm, M4 = sI M2 (x0 + 1) (M2.1 x0 0).toNatClampNeg x3 → vp_in (M4.1 x0 0) 3 ∧ (∀ M5 : Mm, M5 = sI M4 (x0 + 2) (M4.1 x0 0).toNatClampNeg v1 → ∀ M6 : Mm, M6 = sI M5 x0 0 ((M5.1 x0 0) + 1) → ∀ v7 : Int32, v7 = x3 + 1 → WP T mX3_gather 6 [(0, .ref x0), (1, .ref x1), (2, .ref x2), (3, .int v7)] [] M6 (qv Q))))))))))))) :
    WP T mX3_gather 6 [(0, .ref x0), (1, .ref x1), (2, .ref x2), (3, .int x3)] [] M (qv Q) := by
  refine WP.iload_n 3 (dg tX3_gather 4 rfl) rfl rfl ?_
  refine WP.aload_n 1 (dg tX3_gather 5 rfl) rfl rfl ?_
  refine WP.getI fX3_31 h1.1 (dg tX3_gather 6 rfl) ?_
  refine WP.icmp_ge (tgt := 99) (dg tX3_gather 7 rfl) (by decide) (fun z => ?_) (fun z => ?_)
  · replace h := h.1 z
    exact WP.vret rfl (dg tX3_gather 56 rfl) ⟨rfl, h⟩
  · replace h := h.2 z
    refine WP.iload_n 3 (dg tX3_gather 8 rfl) rfl rfl ?_
    refine WP.iconst (v := 5) (dg tX3_gather 9 rfl) (by decide) ?_
    refine WP.icmp_ge (tgt := 99) (dg tX3_gather 10 rfl) (by decide) (fun z => ?_) (fun z => ?_)
    · replace h := h.1 z
      exact WP.vret rfl (dg tX3_gather 56 rfl) ⟨rfl, h⟩
    · replace h := h.2 z
      refine WP.aload_n 0 (dg tX3_gather 11 rfl) rfl rfl ?_
      refine WP.getI fX3_21 h0.1 (dg tX3_gather 12 rfl) ?_
      refine WP.iconst (v := 3) (dg tX3_gather 13 rfl) (by decide) ?_
      refine WP.icmp_ge (tgt := 99) (dg tX3_gather 14 rfl) (by decide) (fun z => ?_) (fun z => ?_)
      · replace h := h.1 z
        exact WP.vret rfl (dg tX3_gather 56 rfl) ⟨rfl, h⟩
      · replace h := h.2 z
        refine WP.aload_n 1 (dg tX3_gather 15 rfl) rfl rfl ?_
        refine WP.getF fX3_36 h1.1 (dg tX3_gather 16 rfl) ?_
        refine WP.iload_n 3 (dg tX3_gather 17 rfl) rfl rfl ?_
        obtain ⟨hb32, h⟩ := h
        refine WP.iald h1.2.2.2.1 hb32 (dg tX3_gather 18 rfl) ?_
        refine WP.aload_n 2 (dg tX3_gather 19 rfl) rfl rfl ?_
        refine WP.getF fX3_39 h2.1 (dg tX3_gather 20 rfl) ?_
        refine WP.iload_n 3 (dg tX3_gather 21 rfl) rfl rfl ?_
        obtain ⟨hb38, h⟩ := h
        refine WP.iald h2.2.2.2.2.2 hb38 (dg tX3_gather 22 rfl) ?_
        refine WP.isub (dg tX3_gather 23 rfl) ?_
        refine WP.aload_n 2 (dg tX3_gather 24 rfl) rfl rfl ?_
        refine WP.getF fX3_44 h2.1 (dg tX3_gather 25 rfl) ?_
        refine WP.iload_n 3 (dg tX3_gather 26 rfl) rfl rfl ?_
        obtain ⟨hb45, h⟩ := h
        refine WP.iald h2.2.2.2.2.1 hb45 (dg tX3_gather 27 rfl) ?_
        refine WP.isub (dg tX3_gather 28 rfl) ?_
        refine WP.topi (fun v1 e_v1 => ?_)
        have h := h v1 e_v1
        refine WP.istore (L2 := [(4, .int v1), (0, .ref x0), (1, .ref x1), (2, .ref x2), (3, .int x3)]) (dg tX3_gather 29 rfl) (by decide) rfl ?_
        refine WP.iload 0 (dg tX3_gather 30 rfl) rfl ?_
        refine WP.if_le (tgt := 93) (dg tX3_gather 31 rfl) (by decide) (fun z => ?_) (fun z => ?_)
        · replace h := h.1 z
          obtain ⟨v2, e_v2⟩ : ∃ y : Int32, y = x3 + 1 := ⟨_, rfl⟩
          have h := h v2 e_v2
          refine WP.iinc (v := v2) (L2 := [(3, .int v2), (4, .int v1), (0, .ref x0), (1, .ref x1), (2, .ref x2)]) 4 (dg tX3_gather 54 rfl) rfl (by rw [e_v2]; rfl) (by decide) rfl ?_
          refine WP.goto (tgt := 6) (dg tX3_gather 55 rfl) (by decide) ?_
          refine WP.sub [2, 3, 4, 0] rfl ?_
          exact h
        · replace h := h.2 z
          refine WP.aload_n 3 (dg tX3_gather 32 rfl) rfl rfl ?_
          refine WP.iload_n 4 (dg tX3_gather 33 rfl) rfl rfl ?_
          refine WP.callVi (As := [.int x3]) (st := []) vX3_47 h2.1 rfl rfl ⟨Nat.le_of_ble_eq_true rfl, Nat.le_of_ble_eq_true rfl⟩ (Nat.le_of_ble_eq_true rfl) rfl (dg tX3_gather 34 rfl) h (fun v3 M2 h => ?_)
          refine WP.if_ne (tgt := 93) (dg tX3_gather 35 rfl) (by decide) (fun z => ?_) (fun z => ?_)
          · replace h := h.1 z
            obtain ⟨v4, e_v4⟩ : ∃ y : Int32, y = x3 + 1 := ⟨_, rfl⟩
            have h := h v4 e_v4
            refine WP.iinc (v := v4) (L2 := [(3, .int v4), (4, .int v1), (0, .ref x0), (1, .ref x1), (2, .ref x2)]) 4 (dg tX3_gather 54 rfl) rfl (by rw [e_v4]; rfl) (by decide) rfl ?_
            refine WP.goto (tgt := 6) (dg tX3_gather 55 rfl) (by decide) ?_
            refine WP.sub [2, 3, 4, 0] rfl ?_
            exact h
          · replace h := h.2 z
            refine WP.aload_n 1 (dg tX3_gather 36 rfl) rfl rfl ?_
            refine WP.getF fX3_9 h0.1 (dg tX3_gather 37 rfl) ?_
            refine WP.aload_n 1 (dg tX3_gather 38 rfl) rfl rfl ?_
            refine WP.getI fX3_21 h0.1 (dg tX3_gather 39 rfl) ?_
            refine WP.iload_n 4 (dg tX3_gather 40 rfl) rfl rfl ?_
            obtain ⟨hb71, h⟩ := h
            refine WP.iast h0.2.1 hb71 (dg tX3_gather 41 rfl) (fun M4 e_M4 => ?_)
            have h := h M4 e_M4
            refine WP.aload_n 1 (dg tX3_gather 42 rfl) rfl rfl ?_
            refine WP.getF fX3_15 h0.1 (dg tX3_gather 43 rfl) ?_
            refine WP.aload_n 1 (dg tX3_gather 44 rfl) rfl rfl ?_
            refine WP.getI fX3_21 h0.1 (dg tX3_gather 45 rfl) ?_
            refine WP.iload 0 (dg tX3_gather 46 rfl) rfl ?_
            obtain ⟨hb82, h⟩ := h
            refine WP.iast h0.2.2.1 hb82 (dg tX3_gather 47 rfl) (fun M5 e_M5 => ?_)
            have h := h M5 e_M5
            refine WP.aload_n 1 (dg tX3_gather 48 rfl) rfl rfl ?_
            refine WP.dup (dg tX3_gather 49 rfl) rfl ?_
            refine WP.getI fX3_21 h0.1 (dg tX3_gather 50 rfl) ?_
            refine WP.iconst (v := 1) (dg tX3_gather 51 rfl) (by decide) ?_
            refine WP.iadd (dg tX3_gather 52 rfl) ?_
            refine WP.putI fX3_21 h0.1 (dg tX3_gather 53 rfl) (fun M6 e_M6 => ?_)
            have h := h M6 e_M6
            obtain ⟨v7, e_v7⟩ : ∃ y : Int32, y = x3 + 1 := ⟨_, rfl⟩
            have h := h v7 e_v7
            refine WP.iinc (v := v7) (L2 := [(3, .int v7), (4, .int v1), (0, .ref x0), (1, .ref x1), (2, .ref x2)]) 4 (dg tX3_gather 54 rfl) rfl (by rw [e_v7]; rfl) (by decide) rfl ?_
            refine WP.goto (tgt := 6) (dg tX3_gather 55 rfl) (by decide) ?_
            refine WP.sub [2, 3, 4, 0] rfl ?_
            exact h
theorem sg_X3_setStarts_0 {T : Th} {M : Mm} {Q : Mm → Prop} {x0 : Nat} {x1 : Int32} {x2 : Int32} {x3 : Int32} (h0 : isX3 T x0)
    (h : ∀ M1 : Mm, M1 = sI M (x0 + 3) 0 x1 → ∀ M2 : Mm, M2 = sI M1 (x0 + 3) 1 x2 → ∀ M3 : Mm, M3 = sI M2 (x0 + 3) 2 x3 → Q M3) :
    WP T mX3_setStarts 0 [(0, .ref x0), (1, .int x1), (2, .int x2), (3, .int x3)] [] M (qv Q) := by
  refine WP.aload_n 0 (dg tX3_setStarts 0 rfl) rfl rfl ?_
  refine WP.getF fX3_18 h0.1 (dg tX3_setStarts 1 rfl) ?_
  refine WP.iconst (v := 0) (dg tX3_setStarts 2 rfl) (by decide) ?_
  refine WP.iload_n 1 (dg tX3_setStarts 3 rfl) rfl rfl ?_
  refine WP.iastc (k := 0) h0.2.2.2 (by decide) (by decide) (dg tX3_setStarts 4 rfl) (fun M1 e_M1 => ?_)
  have h := h M1 e_M1
  refine WP.aload_n 0 (dg tX3_setStarts 5 rfl) rfl rfl ?_
  refine WP.getF fX3_18 h0.1 (dg tX3_setStarts 6 rfl) ?_
  refine WP.iconst (v := 1) (dg tX3_setStarts 7 rfl) (by decide) ?_
  refine WP.iload_n 2 (dg tX3_setStarts 8 rfl) rfl rfl ?_
  refine WP.iastc (k := 1) h0.2.2.2 (by decide) (by decide) (dg tX3_setStarts 9 rfl) (fun M2 e_M2 => ?_)
  have h := h M2 e_M2
  refine WP.aload_n 0 (dg tX3_setStarts 10 rfl) rfl rfl ?_
  refine WP.getF fX3_18 h0.1 (dg tX3_setStarts 11 rfl) ?_
  refine WP.iconst (v := 2) (dg tX3_setStarts 12 rfl) (by decide) ?_
  refine WP.iload_n 3 (dg tX3_setStarts 13 rfl) rfl rfl ?_
  refine WP.iastc (k := 2) h0.2.2.2 (by decide) (by decide) (dg tX3_setStarts 14 rfl) (fun M3 e_M3 => ?_)
  have h := h M3 e_M3
  exact WP.vret rfl (dg tX3_setStarts 15 rfl) ⟨rfl, h⟩
theorem sg_X3_latest_0 {T : Th} {M : Mm} {Q : Int32 → Mm → Prop} {x0 : Nat} {x1 : Int32} (h0 : isX3 T x0)
    (h : ((M.1 x0 0) ≤ x1 → Q 0 M) ∧ (¬ (M.1 x0 0) ≤ x1 → (x1 = (M.1 x0 1) → Q 0 M) ∧ (¬ x1 = (M.1 x0 1) → Q 6 M))) :
    WP T mX3_latest 0 [(0, .ref x0), (1, .int x1)] [] M (qi Q) := by
  refine WP.iload_n 1 (dg tX3_latest 0 rfl) rfl rfl ?_
  refine WP.aload_n 0 (dg tX3_latest 1 rfl) rfl rfl ?_
  refine WP.getI fX3_21 h0.1 (dg tX3_latest 2 rfl) ?_
  refine WP.icmp_ge (tgt := 21) (dg tX3_latest 3 rfl) (by decide) (fun z => ?_) (fun z => ?_)
  · replace h := h.1 z
    refine WP.iconst (v := 0) (dg tX3_latest 10 rfl) (by decide) ?_
    exact WP.iret rfl (dg tX3_latest 11 rfl) ⟨_, rfl, h⟩
  · replace h := h.2 z
    refine WP.iload_n 1 (dg tX3_latest 4 rfl) rfl rfl ?_
    refine WP.aload_n 0 (dg tX3_latest 5 rfl) rfl rfl ?_
    refine WP.getI fX3_25 h0.1 (dg tX3_latest 6 rfl) ?_
    refine WP.icmp_eq (tgt := 21) (dg tX3_latest 7 rfl) (by decide) (fun z => ?_) (fun z => ?_)
    · replace h := h.1 z
      refine WP.iconst (v := 0) (dg tX3_latest 10 rfl) (by decide) ?_
      exact WP.iret rfl (dg tX3_latest 11 rfl) ⟨_, rfl, h⟩
    · replace h := h.2 z
      refine WP.bipush (v := 6) (dg tX3_latest 8 rfl) (by decide) ?_
      refine WP.goto (tgt := 22) (dg tX3_latest 9 rfl) (by decide) ?_
      exact WP.iret rfl (dg tX3_latest 11 rfl) ⟨_, rfl, h⟩
theorem sg_X3_order_0 {T : Th} {M : Mm} {Q : Mm → Prop} {x0 : Nat} {x1 : Nat} {x2 : Int32} (h0 : isX3 T x0) (h1 : isX2 T x1)
    (h : WP T mX3_order 2 [(0, .ref x0), (1, .ref x1), (2, .int x2), (3, .int 0)] [] M (qv Q)) :
    WP T mX3_order 0 [(0, .ref x0), (1, .ref x1), (2, .int x2)] [] M (qv Q) := by
  refine WP.iconst (v := 0) (dg tX3_order 0 rfl) (by decide) ?_
  refine WP.istore_n (L2 := [(3, .int 0), (0, .ref x0), (1, .ref x1), (2, .int x2)]) (dg tX3_order 1 rfl) rfl (by decide) rfl ?_
  refine WP.sub [1, 2, 3, 0] rfl ?_
  exact h
theorem sg_X3_order_2 {T : Th} {M : Mm} {Q : Mm → Prop} {x0 : Nat} {x1 : Nat} {x2 : Int32} {x3 : Int32} (h0 : isX3 T x0) (h1 : isX2 T x1)
    (h : ((M.1 x0 0) ≤ x3 → Q M) ∧ (¬ (M.1 x0 0) ≤ x3 → (3 ≤ x3 → Q M) ∧ (¬ 3 ≤ x3 → vp_in x3 3 ∧ ((¬ (M.1 (x0 + 3) x3.toNatClampNeg) = x2 → ∀ v1 : Int32, v1 = x3 + 1 → WP T mX3_order 2 [(0, .ref x0), (1, .ref x1), (2, .int x2), (3, .int v1)] [] M (qv Q)) ∧ ((M.1 (x0 + 3) x3.toNatClampNeg) = x2 → (x3 = (M.1 x0 1) → ∀ v1 : Int32, v1 = x3 + 1 → WP T mX3_order 2 [(0, .ref x0), (1, .ref x1), (2, .int x2), (3, .int v1)] [] M (qv Q)) ∧ (¬ x3 = (M.1 x0 1) → vp_in x3 3 ∧ (WPi T mX2_isCaught [.ref x1, .int (M.1 (x0 + 1) x3.toNatClampNeg)] M (fun v2 M1 => (¬ v2 = 0 → ∀ v3 : Int32, v3 = x3 + 1 → WP T mX3_order 2 [(0, .ref x0), (1, .ref x1), (2, .int x2), (3, .int v3)] [] M1 (qv Q)) ∧ (v2 = 0 → vp_in x3 3 ∧ (vp_in (M1.1 (x0 + 1) x3.toNatClampNeg) 5 ∧ (vp_in x3 3 ∧ (vp_in (M1.1 (x0 + 1) x3.toNatClampNeg) 5 ∧ (∀ M3 : Mm, M3 = sI M1 (x1 + 4) (M1.1 (x0 + 1) x3.toNatClampNeg).toNatClampNeg ((M1.1 (x1 + 4) (M1.1 (x0 + 1) x3.toNatClampNeg).toNatClampNeg) + (M1.1 (x0 + 2) x3.toNatClampNeg)) → ∀ v4 : Int32, v4 = x3 + 1 → WP T mX3_order 2 [(0, .ref x0), (1, .ref x1), (2, .int x2), (3, .int v4)] [] M3 (qv Q)))))))))))))) :
    WP T mX3_order 2 [(0, .ref x0), (1, .ref x1), (2, .int x2), (3, .int x3)] [] M (qv Q) := by
  refine WP.iload_n 3 (dg tX3_order 2 rfl) rfl rfl ?_
  refine WP.aload_n 0 (dg tX3_order 3 rfl) rfl rfl ?_
  refine WP.getI fX3_21 h0.1 (dg tX3_order 4 rfl) ?_
  refine WP.icmp_ge (tgt := 72) (dg tX3_order 5 rfl) (by decide) (fun z => ?_) (fun z => ?_)
  · replace h := h.1 z
    exact WP.vret rfl (dg tX3_order 42 rfl) ⟨rfl, h⟩
  · replace h := h.2 z
    refine WP.iload_n 3 (dg tX3_order 6 rfl) rfl rfl ?_
    refine WP.iconst (v := 3) (dg tX3_order 7 rfl) (by decide) ?_
    refine WP.icmp_ge (tgt := 72) (dg tX3_order 8 rfl) (by decide) (fun z => ?_) (fun z => ?_)
    · replace h := h.1 z
      exact WP.vret rfl (dg tX3_order 42 rfl) ⟨rfl, h⟩
    · replace h := h.2 z
      refine WP.aload_n 0 (dg tX3_order 9 rfl) rfl rfl ?_
      refine WP.getF fX3_18 h0.1 (dg tX3_order 10 rfl) ?_
      refine WP.iload_n 3 (dg tX3_order 11 rfl) rfl rfl ?_
      obtain ⟨hb20, h⟩ := h
      refine WP.iald h0.2.2.2 hb20 (dg tX3_order 12 rfl) ?_
      refine WP.iload_n 2 (dg tX3_order 13 rfl) rfl rfl ?_
      refine WP.icmp_ne (tgt := 66) (dg tX3_order 14 rfl) (by decide) (fun z => ?_) (fun z => ?_)
      · replace h := h.1 z
        obtain ⟨v1, e_v1⟩ : ∃ y : Int32, y = x3 + 1 := ⟨_, rfl⟩
        have h := h v1 e_v1
        refine WP.iinc (v := v1) (L2 := [(3, .int v1), (0, .ref x0), (1, .ref x1), (2, .int x2)]) 3 (dg tX3_order 40 rfl) rfl (by rw [e_v1]; rfl) (by decide) rfl ?_
        refine WP.goto (tgt := 2) (dg tX3_order 41 rfl) (by decide) ?_
        refine WP.sub [1, 2, 3, 0] rfl ?_
        exact h
      · replace h := h.2 z
        refine WP.iload_n 3 (dg tX3_order 15 rfl) rfl rfl ?_
        refine WP.aload_n 0 (dg tX3_order 16 rfl) rfl rfl ?_
        refine WP.getI fX3_25 h0.1 (dg tX3_order 17 rfl) ?_
        refine WP.icmp_eq (tgt := 66) (dg tX3_order 18 rfl) (by decide) (fun z => ?_) (fun z => ?_)
        · replace h := h.1 z
          obtain ⟨v1, e_v1⟩ : ∃ y : Int32, y = x3 + 1 := ⟨_, rfl⟩
          have h := h v1 e_v1
          refine WP.iinc (v := v1) (L2 := [(3, .int v1), (0, .ref x0), (1, .ref x1), (2, .int x2)]) 3 (dg tX3_order 40 rfl) rfl (by rw [e_v1]; rfl) (by decide) rfl ?_
          refine WP.goto (tgt := 2) (dg tX3_order 41 rfl) (by decide) ?_
          refine WP.sub [1, 2, 3, 0] rfl ?_
          exact h
        · replace h := h.2 z
          refine WP.aload_n 1 (dg tX3_order 19 rfl) rfl rfl ?_
          refine WP.aload_n 0 (dg tX3_order 20 rfl) rfl rfl ?_
          refine WP.getF fX3_9 h0.1 (dg tX3_order 21 rfl) ?_
          refine WP.iload_n 3 (dg tX3_order 22 rfl) rfl rfl ?_
          obtain ⟨hb39, h⟩ := h
          refine WP.iald h0.2.1 hb39 (dg tX3_order 23 rfl) ?_
          refine WP.callVi (As := [.int (M.1 (x0 + 1) x3.toNatClampNeg)]) (st := []) vX3_47 h1.1 rfl rfl ⟨Nat.le_of_ble_eq_true rfl, Nat.le_of_ble_eq_true rfl⟩ (Nat.le_of_ble_eq_true rfl) rfl (dg tX3_order 24 rfl) h (fun v2 M1 h => ?_)
          refine WP.if_ne (tgt := 66) (dg tX3_order 25 rfl) (by decide) (fun z => ?_) (fun z => ?_)
          · replace h := h.1 z
            obtain ⟨v3, e_v3⟩ : ∃ y : Int32, y = x3 + 1 := ⟨_, rfl⟩
            have h := h v3 e_v3
            refine WP.iinc (v := v3) (L2 := [(3, .int v3), (0, .ref x0), (1, .ref x1), (2, .int x2)]) 3 (dg tX3_order 40 rfl) rfl (by rw [e_v3]; rfl) (by decide) rfl ?_
            refine WP.goto (tgt := 2) (dg tX3_order 41 rfl) (by decide) ?_
            refine WP.sub [1, 2, 3, 0] rfl ?_
            exact h
          · replace h := h.2 z
            refine WP.aload_n 1 (dg tX3_order 26 rfl) rfl rfl ?_
            refine WP.getF fX3_44 h1.1 (dg tX3_order 27 rfl) ?_
            refine WP.aload_n 0 (dg tX3_order 28 rfl) rfl rfl ?_
            refine WP.getF fX3_9 h0.1 (dg tX3_order 29 rfl) ?_
            refine WP.iload_n 3 (dg tX3_order 30 rfl) rfl rfl ?_
            obtain ⟨hb55, h⟩ := h
            refine WP.iald h0.2.1 hb55 (dg tX3_order 31 rfl) ?_
            refine WP.dup2 (dg tX3_order 32 rfl) rfl rfl ?_
            obtain ⟨hb57, h⟩ := h
            refine WP.iald h1.2.2.2.2.1 hb57 (dg tX3_order 33 rfl) ?_
            refine WP.aload_n 0 (dg tX3_order 34 rfl) rfl rfl ?_
            refine WP.getF fX3_15 h0.1 (dg tX3_order 35 rfl) ?_
            refine WP.iload_n 3 (dg tX3_order 36 rfl) rfl rfl ?_
            obtain ⟨hb63, h⟩ := h
            refine WP.iald h0.2.2.1 hb63 (dg tX3_order 37 rfl) ?_
            refine WP.iadd (dg tX3_order 38 rfl) ?_
            obtain ⟨hb65, h⟩ := h
            refine WP.iast h1.2.2.2.2.1 hb65 (dg tX3_order 39 rfl) (fun M3 e_M3 => ?_)
            have h := h M3 e_M3
            obtain ⟨v4, e_v4⟩ : ∃ y : Int32, y = x3 + 1 := ⟨_, rfl⟩
            have h := h v4 e_v4
            refine WP.iinc (v := v4) (L2 := [(3, .int v4), (0, .ref x0), (1, .ref x1), (2, .int x2)]) 3 (dg tX3_order 40 rfl) rfl (by rw [e_v4]; rfl) (by decide) rfl ?_
            refine WP.goto (tgt := 2) (dg tX3_order 41 rfl) (by decide) ?_
            refine WP.sub [1, 2, 3, 0] rfl ?_
            exact h
theorem sg_X3_sum_0 {T : Th} {M : Mm} {Q : Int32 → Mm → Prop} {x0 : Nat} (h0 : isX3 T x0)
    (h : WP T mX3_sum 4 [(0, .ref x0), (1, .int 0), (2, .int 0)] [] M (qi Q)) :
    WP T mX3_sum 0 [(0, .ref x0)] [] M (qi Q) := by
  refine WP.iconst (v := 0) (dg tX3_sum 0 rfl) (by decide) ?_
  refine WP.istore_n (L2 := [(1, .int 0), (0, .ref x0)]) (dg tX3_sum 1 rfl) rfl (by decide) rfl ?_
  refine WP.iconst (v := 0) (dg tX3_sum 2 rfl) (by decide) ?_
  refine WP.istore_n (L2 := [(2, .int 0), (1, .int 0), (0, .ref x0)]) (dg tX3_sum 3 rfl) rfl (by decide) rfl ?_
  refine WP.sub [2, 1, 0] rfl ?_
  exact h
theorem sg_X3_sum_4 {T : Th} {M : Mm} {Q : Int32 → Mm → Prop} {x0 : Nat} {x1 : Int32} {x2 : Int32} (h0 : isX3 T x0)
    (h : ((M.1 x0 0) ≤ x2 → Q x1 M) ∧ (¬ (M.1 x0 0) ≤ x2 → (3 ≤ x2 → Q x1 M) ∧ (¬ 3 ≤ x2 → vp_in x2 3 ∧ (∀ v1 : Int32, v1 = x1 + (M.1 (x0 + 3) x2.toNatClampNeg) → ∀ v2 : Int32, v2 = x2 + 1 → WP T mX3_sum 4 [(0, .ref x0), (1, .int v1), (2, .int v2)] [] M (qi Q))))) :
    WP T mX3_sum 4 [(0, .ref x0), (1, .int x1), (2, .int x2)] [] M (qi Q) := by
  refine WP.iload_n 2 (dg tX3_sum 4 rfl) rfl rfl ?_
  refine WP.aload_n 0 (dg tX3_sum 5 rfl) rfl rfl ?_
  refine WP.getI fX3_21 h0.1 (dg tX3_sum 6 rfl) ?_
  refine WP.icmp_ge (tgt := 32) (dg tX3_sum 7 rfl) (by decide) (fun z => ?_) (fun z => ?_)
  · replace h := h.1 z
    refine WP.iload_n 1 (dg tX3_sum 20 rfl) rfl rfl ?_
    exact WP.iret rfl (dg tX3_sum 21 rfl) ⟨_, rfl, h⟩
  · replace h := h.2 z
    refine WP.iload_n 2 (dg tX3_sum 8 rfl) rfl rfl ?_
    refine WP.iconst (v := 3) (dg tX3_sum 9 rfl) (by decide) ?_
    refine WP.icmp_ge (tgt := 32) (dg tX3_sum 10 rfl) (by decide) (fun z => ?_) (fun z => ?_)
    · replace h := h.1 z
      refine WP.iload_n 1 (dg tX3_sum 20 rfl) rfl rfl ?_
      exact WP.iret rfl (dg tX3_sum 21 rfl) ⟨_, rfl, h⟩
    · replace h := h.2 z
      refine WP.iload_n 1 (dg tX3_sum 11 rfl) rfl rfl ?_
      refine WP.aload_n 0 (dg tX3_sum 12 rfl) rfl rfl ?_
      refine WP.getF fX3_18 h0.1 (dg tX3_sum 13 rfl) ?_
      refine WP.iload_n 2 (dg tX3_sum 14 rfl) rfl rfl ?_
      obtain ⟨hb23, h⟩ := h
      refine WP.iald h0.2.2.2 hb23 (dg tX3_sum 15 rfl) ?_
      refine WP.iadd (dg tX3_sum 16 rfl) ?_
      refine WP.topi (fun v1 e_v1 => ?_)
      have h := h v1 e_v1
      refine WP.istore_n (L2 := [(1, .int v1), (0, .ref x0), (2, .int x2)]) (dg tX3_sum 17 rfl) rfl (by decide) rfl ?_
      obtain ⟨v2, e_v2⟩ : ∃ y : Int32, y = x2 + 1 := ⟨_, rfl⟩
      have h := h v2 e_v2
      refine WP.iinc (v := v2) (L2 := [(2, .int v2), (1, .int v1), (0, .ref x0)]) 2 (dg tX3_sum 18 rfl) rfl (by rw [e_v2]; rfl) (by decide) rfl ?_
      refine WP.goto (tgt := 4) (dg tX3_sum 19 rfl) (by decide) ?_
      refine WP.sub [2, 1, 0] rfl ?_
      exact h
theorem sg_X3_startOf_0 {T : Th} {M : Mm} {Q : Int32 → Mm → Prop} {x0 : Nat} {x1 : Int32} (h0 : isX3 T x0)
    (h : WP T mX3_startOf 2 [(0, .ref x0), (1, .int x1), (2, .int 0)] [] M (qi Q)) :
    WP T mX3_startOf 0 [(0, .ref x0), (1, .int x1)] [] M (qi Q) := by
  refine WP.iconst (v := 0) (dg tX3_startOf 0 rfl) (by decide) ?_
  refine WP.istore_n (L2 := [(2, .int 0), (0, .ref x0), (1, .int x1)]) (dg tX3_startOf 1 rfl) rfl (by decide) rfl ?_
  refine WP.sub [1, 2, 0] rfl ?_
  exact h
theorem sg_X3_startOf_2 {T : Th} {M : Mm} {Q : Int32 → Mm → Prop} {x0 : Nat} {x1 : Int32} {x2 : Int32} (h0 : isX3 T x0)
    (h : ((M.1 x0 0) ≤ x2 → Q 0 M) ∧ (¬ (M.1 x0 0) ≤ x2 → (3 ≤ x2 → Q 0 M) ∧ (¬ 3 ≤ x2 → vp_in x2 3 ∧ ((¬ (M.1 (x0 + 1) x2.toNatClampNeg) = x1 → ∀ v1 : Int32, v1 = x2 + 1 → WP T mX3_startOf 2 [(0, .ref x0), (1, .int x1), (2, .int v1)] [] M (qi Q)) ∧ ((M.1 (x0 + 1) x2.toNatClampNeg) = x1 → vp_in x2 3 ∧ (Q (M.1 (x0 + 3) x2.toNatClampNeg) M)))))) :
    WP T mX3_startOf 2 [(0, .ref x0), (1, .int x1), (2, .int x2)] [] M (qi Q) := by
  refine WP.iload_n 2 (dg tX3_startOf 2 rfl) rfl rfl ?_
  refine WP.aload_n 0 (dg tX3_startOf 3 rfl) rfl rfl ?_
  refine WP.getI fX3_21 h0.1 (dg tX3_startOf 4 rfl) ?_
  refine WP.icmp_ge (tgt := 38) (dg tX3_startOf 5 rfl) (by decide) (fun z => ?_) (fun z => ?_)
  · replace h := h.1 z
    refine WP.iconst (v := 0) (dg tX3_startOf 22 rfl) (by decide) ?_
    exact WP.iret rfl (dg tX3_startOf 23 rfl) ⟨_, rfl, h⟩
  · replace h := h.2 z
    refine WP.iload_n 2 (dg tX3_startOf 6 rfl) rfl rfl ?_
    refine WP.iconst (v := 3) (dg tX3_startOf 7 rfl) (by decide) ?_
    refine WP.icmp_ge (tgt := 38) (dg tX3_startOf 8 rfl) (by decide) (fun z => ?_) (fun z => ?_)
    · replace h := h.1 z
      refine WP.iconst (v := 0) (dg tX3_startOf 22 rfl) (by decide) ?_
      exact WP.iret rfl (dg tX3_startOf 23 rfl) ⟨_, rfl, h⟩
    · replace h := h.2 z
      refine WP.aload_n 0 (dg tX3_startOf 9 rfl) rfl rfl ?_
      refine WP.getF fX3_9 h0.1 (dg tX3_startOf 10 rfl) ?_
      refine WP.iload_n 2 (dg tX3_startOf 11 rfl) rfl rfl ?_
      obtain ⟨hb20, h⟩ := h
      refine WP.iald h0.2.1 hb20 (dg tX3_startOf 12 rfl) ?_
      refine WP.iload_n 1 (dg tX3_startOf 13 rfl) rfl rfl ?_
      refine WP.icmp_ne (tgt := 32) (dg tX3_startOf 14 rfl) (by decide) (fun z => ?_) (fun z => ?_)
      · replace h := h.1 z
        obtain ⟨v1, e_v1⟩ : ∃ y : Int32, y = x2 + 1 := ⟨_, rfl⟩
        have h := h v1 e_v1
        refine WP.iinc (v := v1) (L2 := [(2, .int v1), (0, .ref x0), (1, .int x1)]) 2 (dg tX3_startOf 20 rfl) rfl (by rw [e_v1]; rfl) (by decide) rfl ?_
        refine WP.goto (tgt := 2) (dg tX3_startOf 21 rfl) (by decide) ?_
        refine WP.sub [1, 2, 0] rfl ?_
        exact h
      · replace h := h.2 z
        refine WP.aload_n 0 (dg tX3_startOf 15 rfl) rfl rfl ?_
        refine WP.getF fX3_18 h0.1 (dg tX3_startOf 16 rfl) ?_
        refine WP.iload_n 2 (dg tX3_startOf 17 rfl) rfl rfl ?_
        obtain ⟨hb30, h⟩ := h
        refine WP.iald h0.2.2.2 hb30 (dg tX3_startOf 18 rfl) ?_
        exact WP.iret rfl (dg tX3_startOf 19 rfl) ⟨_, rfl, h⟩
theorem sg_X5_begin_0 {T : Th} {M : Mm} {Q : Mm → Prop} {x0 : Nat} {x1 : Nat} (h0 : isX5 T x0) (h1 : isX2 T x1)
    (h : WPv T mX2_copyFrom [.ref (x0 + 1), .ref x1] M (fun M1 => ∀ M2 : Mm, M2 = sI M1 x0 2 0 → Q M2)) :
    WP T mX5_begin 0 [(0, .ref x0), (1, .ref x1)] [] M (qv Q) := by
  refine WP.aload_n 0 (dg tX5_begin 0 rfl) rfl rfl ?_
  refine WP.getF fX5_12 h0.1 (dg tX5_begin 1 rfl) ?_
  refine WP.aload_n 1 (dg tX5_begin 2 rfl) rfl rfl ?_
  refine WP.callVv (As := [.ref x1]) (st := []) vX5_22 h0.2.1.1 rfl rfl ⟨Nat.le_of_ble_eq_true rfl, Nat.le_of_ble_eq_true rfl⟩ (Nat.le_of_ble_eq_true rfl) rfl (dg tX5_begin 3 rfl) h (fun M1 h => ?_)
  refine WP.aload_n 0 (dg tX5_begin 4 rfl) rfl rfl ?_
  refine WP.iconst (v := 0) (dg tX5_begin 5 rfl) (by decide) ?_
  refine WP.putI fX5_26 h0.1 (dg tX5_begin 6 rfl) (fun M2 e_M2 => ?_)
  have h := h M2 e_M2
  exact WP.vret rfl (dg tX5_begin 7 rfl) ⟨rfl, h⟩
theorem sg_X5_remember_0 {T : Th} {M : Mm} {Q : Mm → Prop} {x0 : Nat} (h0 : isX5 T x0)
    (h : ((M.1 x0 2) < 10 → WP T mX5_remember 13 [(0, .ref x0)] [] M (qv Q)) ∧ (¬ (M.1 x0 2) < 10 → WPv T mX5_loseOldest [.ref x0] M (fun M1 => WP T mX5_remember 13 [(0, .ref x0)] [] M1 (qv Q)))) :
    WP T mX5_remember 0 [(0, .ref x0)] [] M (qv Q) := by
  refine WP.aload_n 0 (dg tX5_remember 0 rfl) rfl rfl ?_
  refine WP.getI fX5_26 h0.1 (dg tX5_remember 1 rfl) ?_
  refine WP.bipush (v := 10) (dg tX5_remember 2 rfl) (by decide) ?_
  refine WP.icmp_lt (tgt := 13) (dg tX5_remember 3 rfl) (by decide) (fun z => ?_) (fun z => ?_)
  · replace h := h.1 z
    exact h
  · replace h := h.2 z
    refine WP.aload_n 0 (dg tX5_remember 4 rfl) rfl rfl ?_
    refine WP.callVv (As := []) (st := []) vX5_30 h0.1 rfl rfl ⟨Nat.le_of_ble_eq_true rfl, Nat.le_of_ble_eq_true rfl⟩ (Nat.le_of_ble_eq_true rfl) rfl (dg tX5_remember 5 rfl) h (fun M1 h => ?_)
    exact h
theorem sg_X5_remember_13 {T : Th} {M : Mm} {Q : Mm → Prop} {x0 : Nat} (h0 : isX5 T x0)
    (h : ((M.1 x0 2) < 0 → Q M) ∧ (¬ (M.1 x0 2) < 0 → (10 ≤ (M.1 x0 2) → Q M) ∧ (¬ 10 ≤ (M.1 x0 2) → vp_in (M.1 x0 2) 10 ∧ (∀ r1 : Nat, r1 = M.2.2 (x0 + 7) (M.1 x0 2).toNatClampNeg → isX2 T r1 ∧ (vp_in (M.1 x0 2) 10 ∧ (∀ r2 : Nat, r2 = M.2.2 (x0 + 7) (M.1 x0 2).toNatClampNeg → isX2 T r2 ∧ (WPv T mX2_copyFrom [.ref r2, .ref (x0 + 1)] M (fun M3 => ∀ M4 : Mm, M4 = sI M3 x0 2 ((M3.1 x0 2) + 1) → Q M4)))))))) :
    WP T mX5_remember 13 [(0, .ref x0)] [] M (qv Q) := by
  refine WP.aload_n 0 (dg tX5_remember 6 rfl) rfl rfl ?_
  refine WP.getI fX5_26 h0.1 (dg tX5_remember 7 rfl) ?_
  refine WP.if_lt (tgt := 67) (dg tX5_remember 8 rfl) (by decide) (fun z => ?_) (fun z => ?_)
  · replace h := h.1 z
    exact WP.vret rfl (dg tX5_remember 33 rfl) ⟨rfl, h⟩
  · replace h := h.2 z
    refine WP.aload_n 0 (dg tX5_remember 9 rfl) rfl rfl ?_
    refine WP.getI fX5_26 h0.1 (dg tX5_remember 10 rfl) ?_
    refine WP.bipush (v := 10) (dg tX5_remember 11 rfl) (by decide) ?_
    refine WP.icmp_ge (tgt := 67) (dg tX5_remember 12 rfl) (by decide) (fun z => ?_) (fun z => ?_)
    · replace h := h.1 z
      exact WP.vret rfl (dg tX5_remember 33 rfl) ⟨rfl, h⟩
    · replace h := h.2 z
      refine WP.aload_n 0 (dg tX5_remember 13 rfl) rfl rfl ?_
      refine WP.getF fX5_18 h0.1 (dg tX5_remember 14 rfl) ?_
      refine WP.aload_n 0 (dg tX5_remember 15 rfl) rfl rfl ?_
      refine WP.getI fX5_26 h0.1 (dg tX5_remember 16 rfl) ?_
      obtain ⟨hb37, h⟩ := h
      refine WP.aald h0.2.2 hb37 (dg tX5_remember 17 rfl) ?_
      refine WP.topr (fun r1 e_r1 => ?_)
      obtain ⟨o_r1, h⟩ := h r1 e_r1
      refine WP.ifnull (dg tX5_remember 18 rfl) ?_
      refine WP.aload_n 0 (dg tX5_remember 19 rfl) rfl rfl ?_
      refine WP.getF fX5_18 h0.1 (dg tX5_remember 20 rfl) ?_
      refine WP.aload_n 0 (dg tX5_remember 21 rfl) rfl rfl ?_
      refine WP.getI fX5_26 h0.1 (dg tX5_remember 22 rfl) ?_
      obtain ⟨hb49, h⟩ := h
      refine WP.aald h0.2.2 hb49 (dg tX5_remember 23 rfl) ?_
      refine WP.topr (fun r2 e_r2 => ?_)
      obtain ⟨o_r2, h⟩ := h r2 e_r2
      refine WP.aload_n 0 (dg tX5_remember 24 rfl) rfl rfl ?_
      refine WP.getF fX5_12 h0.1 (dg tX5_remember 25 rfl) ?_
      refine WP.callVv (As := [.ref (x0 + 1)]) (st := []) vX5_22 o_r2.1 rfl rfl ⟨Nat.le_of_ble_eq_true rfl, Nat.le_of_ble_eq_true rfl⟩ (Nat.le_of_ble_eq_true rfl) rfl (dg tX5_remember 26 rfl) h (fun M3 h => ?_)
      refine WP.aload_n 0 (dg tX5_remember 27 rfl) rfl rfl ?_
      refine WP.dup (dg tX5_remember 28 rfl) rfl ?_
      refine WP.getI fX5_26 h0.1 (dg tX5_remember 29 rfl) ?_
      refine WP.iconst (v := 1) (dg tX5_remember 30 rfl) (by decide) ?_
      refine WP.iadd (dg tX5_remember 31 rfl) ?_
      refine WP.putI fX5_26 h0.1 (dg tX5_remember 32 rfl) (fun M4 e_M4 => ?_)
      have h := h M4 e_M4
      exact WP.vret rfl (dg tX5_remember 33 rfl) ⟨rfl, h⟩
theorem sg_X5_loseOldest_0 {T : Th} {M : Mm} {Q : Mm → Prop} {x0 : Nat} (h0 : isX5 T x0)
    (h : ∀ r1 : Nat, r1 = M.2.2 (x0 + 7) 0 → isX2 T r1 ∧ (WP T mX5_loseOldest 9 [(0, .ref x0), (1, .ref r1), (2, .int 1)] [] M (qv Q))) :
    WP T mX5_loseOldest 0 [(0, .ref x0)] [] M (qv Q) := by
  refine WP.aload_n 0 (dg tX5_loseOldest 0 rfl) rfl rfl ?_
  refine WP.getF fX5_18 h0.1 (dg tX5_loseOldest 1 rfl) ?_
  refine WP.iconst (v := 0) (dg tX5_loseOldest 2 rfl) (by decide) ?_
  refine WP.aaldc (k := 0) h0.2.2 (by decide) (by decide) (dg tX5_loseOldest 3 rfl) ?_
  refine WP.topr (fun r1 e_r1 => ?_)
  obtain ⟨o_r1, h⟩ := h r1 e_r1
  refine WP.astore_n (L2 := [(1, .ref r1), (0, .ref x0)]) (dg tX5_loseOldest 4 rfl) rfl (by decide) rfl ?_
  refine WP.iconst (v := 1) (dg tX5_loseOldest 5 rfl) (by decide) ?_
  refine WP.istore_n (L2 := [(2, .int 1), (1, .ref r1), (0, .ref x0)]) (dg tX5_loseOldest 6 rfl) rfl (by decide) rfl ?_
  refine WP.sub [2, 1, 0] rfl ?_
  exact h
theorem sg_X5_loseOldest_9 {T : Th} {M : Mm} {Q : Mm → Prop} {x0 : Nat} {x1 : Nat} {x2 : Int32} (h0 : isX5 T x0) (h1 : isX2 T x1)
    (h : (10 ≤ x2 → ∀ M1 : Mm, M1 = sR M (x0 + 7) 9 x1 → ∀ M2 : Mm, M2 = sI M1 x0 2 9 → Q M2) ∧ (¬ 10 ≤ x2 → vp_in x2 10 ∧ (∀ r1 : Nat, r1 = M.2.2 (x0 + 7) x2.toNatClampNeg → isX2 T r1 ∧ (vp_in (x2 - 1) 10 ∧ (∀ M2 : Mm, M2 = sR M (x0 + 7) (x2 - 1).toNatClampNeg r1 → ∀ v3 : Int32, v3 = x2 + 1 → WP T mX5_loseOldest 9 [(0, .ref x0), (1, .ref x1), (2, .int v3)] [] M2 (qv Q)))))) :
    WP T mX5_loseOldest 9 [(0, .ref x0), (1, .ref x1), (2, .int x2)] [] M (qv Q) := by
  refine WP.iload_n 2 (dg tX5_loseOldest 7 rfl) rfl rfl ?_
  refine WP.bipush (v := 10) (dg tX5_loseOldest 8 rfl) (by decide) ?_
  refine WP.icmp_ge (tgt := 35) (dg tX5_loseOldest 9 rfl) (by decide) (fun z => ?_) (fun z => ?_)
  · replace h := h.1 z
    refine WP.aload_n 0 (dg tX5_loseOldest 22 rfl) rfl rfl ?_
    refine WP.getF fX5_18 h0.1 (dg tX5_loseOldest 23 rfl) ?_
    refine WP.bipush (v := 9) (dg tX5_loseOldest 24 rfl) (by decide) ?_
    refine WP.aload_n 1 (dg tX5_loseOldest 25 rfl) rfl rfl ?_
    refine WP.aastc (k := 9) h0.2.2 h1.1 (by decide) (by decide) (dg tX5_loseOldest 26 rfl) (fun M1 e_M1 => ?_)
    have h := h M1 e_M1
    refine WP.aload_n 0 (dg tX5_loseOldest 27 rfl) rfl rfl ?_
    refine WP.bipush (v := 9) (dg tX5_loseOldest 28 rfl) (by decide) ?_
    refine WP.putI fX5_26 h0.1 (dg tX5_loseOldest 29 rfl) (fun M2 e_M2 => ?_)
    have h := h M2 e_M2
    exact WP.vret rfl (dg tX5_loseOldest 30 rfl) ⟨rfl, h⟩
  · replace h := h.2 z
    refine WP.aload_n 0 (dg tX5_loseOldest 10 rfl) rfl rfl ?_
    refine WP.getF fX5_18 h0.1 (dg tX5_loseOldest 11 rfl) ?_
    refine WP.iload_n 2 (dg tX5_loseOldest 12 rfl) rfl rfl ?_
    refine WP.iconst (v := 1) (dg tX5_loseOldest 13 rfl) (by decide) ?_
    refine WP.isub (dg tX5_loseOldest 14 rfl) ?_
    refine WP.aload_n 0 (dg tX5_loseOldest 15 rfl) rfl rfl ?_
    refine WP.getF fX5_18 h0.1 (dg tX5_loseOldest 16 rfl) ?_
    refine WP.iload_n 2 (dg tX5_loseOldest 17 rfl) rfl rfl ?_
    obtain ⟨hb27, h⟩ := h
    refine WP.aald h0.2.2 hb27 (dg tX5_loseOldest 18 rfl) ?_
    refine WP.topr (fun r1 e_r1 => ?_)
    obtain ⟨o_r1, h⟩ := h r1 e_r1
    obtain ⟨hb28, h⟩ := h
    refine WP.aast h0.2.2 o_r1.1 hb28 (dg tX5_loseOldest 19 rfl) (fun M2 e_M2 => ?_)
    have h := h M2 e_M2
    obtain ⟨v3, e_v3⟩ : ∃ y : Int32, y = x2 + 1 := ⟨_, rfl⟩
    have h := h v3 e_v3
    refine WP.iinc (v := v3) (L2 := [(2, .int v3), (0, .ref x0), (1, .ref x1)]) 2 (dg tX5_loseOldest 20 rfl) rfl (by rw [e_v3]; rfl) (by decide) rfl ?_
    refine WP.goto (tgt := 9) (dg tX5_loseOldest 21 rfl) (by decide) ?_
    refine WP.sub [1, 2, 0] rfl ?_
    exact h
theorem sg_X5_takeBack_0 {T : Th} {M : Mm} {Q : Int32 → Mm → Prop} {x0 : Nat} (h0 : isX5 T x0)
    (h : ((M.1 x0 2) < 1 → Q 0 M) ∧ (¬ (M.1 x0 2) < 1 → (10 < (M.1 x0 2) → Q 0 M) ∧ (¬ 10 < (M.1 x0 2) → vp_in ((M.1 x0 2) - 1) 10 ∧ (∀ r1 : Nat, r1 = M.2.2 (x0 + 7) ((M.1 x0 2) - 1).toNatClampNeg → isX2 T r1 ∧ (∀ M2 : Mm, M2 = sI M x0 2 ((M.1 x0 2) - 1) → vp_in (M2.1 x0 2) 10 ∧ (∀ r3 : Nat, r3 = M2.2.2 (x0 + 7) (M2.1 x0 2).toNatClampNeg → isX2 T r3 ∧ (WPv T mX2_copyFrom [.ref (x0 + 1), .ref r3] M2 (fun M4 => Q 1 M4)))))))) :
    WP T mX5_takeBack 0 [(0, .ref x0)] [] M (qi Q) := by
  refine WP.aload_n 0 (dg tX5_takeBack 0 rfl) rfl rfl ?_
  refine WP.getI fX5_26 h0.1 (dg tX5_takeBack 1 rfl) ?_
  refine WP.iconst (v := 1) (dg tX5_takeBack 2 rfl) (by decide) ?_
  refine WP.icmp_lt (tgt := 31) (dg tX5_takeBack 3 rfl) (by decide) (fun z => ?_) (fun z => ?_)
  · replace h := h.1 z
    refine WP.iconst (v := 0) (dg tX5_takeBack 16 rfl) (by decide) ?_
    exact WP.zret rfl (by decide) (dg tX5_takeBack 17 rfl) ⟨_, rfl, h⟩
  · replace h := h.2 z
    refine WP.aload_n 0 (dg tX5_takeBack 4 rfl) rfl rfl ?_
    refine WP.getI fX5_26 h0.1 (dg tX5_takeBack 5 rfl) ?_
    refine WP.bipush (v := 10) (dg tX5_takeBack 6 rfl) (by decide) ?_
    refine WP.icmp_gt (tgt := 31) (dg tX5_takeBack 7 rfl) (by decide) (fun z => ?_) (fun z => ?_)
    · replace h := h.1 z
      refine WP.iconst (v := 0) (dg tX5_takeBack 16 rfl) (by decide) ?_
      exact WP.zret rfl (by decide) (dg tX5_takeBack 17 rfl) ⟨_, rfl, h⟩
    · replace h := h.2 z
      refine WP.aload_n 0 (dg tX5_takeBack 8 rfl) rfl rfl ?_
      refine WP.getF fX5_18 h0.1 (dg tX5_takeBack 9 rfl) ?_
      refine WP.aload_n 0 (dg tX5_takeBack 10 rfl) rfl rfl ?_
      refine WP.getI fX5_26 h0.1 (dg tX5_takeBack 11 rfl) ?_
      refine WP.iconst (v := 1) (dg tX5_takeBack 12 rfl) (by decide) ?_
      refine WP.isub (dg tX5_takeBack 13 rfl) ?_
      obtain ⟨hb27, h⟩ := h
      refine WP.aald h0.2.2 hb27 (dg tX5_takeBack 14 rfl) ?_
      refine WP.topr (fun r1 e_r1 => ?_)
      obtain ⟨o_r1, h⟩ := h r1 e_r1
      refine WP.ifnonnull (tgt := 33) (dg tX5_takeBack 15 rfl) (by decide) ?_
      refine WP.aload_n 0 (dg tX5_takeBack 18 rfl) rfl rfl ?_
      refine WP.dup (dg tX5_takeBack 19 rfl) rfl ?_
      refine WP.getI fX5_26 h0.1 (dg tX5_takeBack 20 rfl) ?_
      refine WP.iconst (v := 1) (dg tX5_takeBack 21 rfl) (by decide) ?_
      refine WP.isub (dg tX5_takeBack 22 rfl) ?_
      refine WP.putI fX5_26 h0.1 (dg tX5_takeBack 23 rfl) (fun M2 e_M2 => ?_)
      have h := h M2 e_M2
      refine WP.aload_n 0 (dg tX5_takeBack 24 rfl) rfl rfl ?_
      refine WP.getF fX5_12 h0.1 (dg tX5_takeBack 25 rfl) ?_
      refine WP.aload_n 0 (dg tX5_takeBack 26 rfl) rfl rfl ?_
      refine WP.getF fX5_18 h0.1 (dg tX5_takeBack 27 rfl) ?_
      refine WP.aload_n 0 (dg tX5_takeBack 28 rfl) rfl rfl ?_
      refine WP.getI fX5_26 h0.1 (dg tX5_takeBack 29 rfl) ?_
      obtain ⟨hb55, h⟩ := h
      refine WP.aald h0.2.2 hb55 (dg tX5_takeBack 30 rfl) ?_
      refine WP.topr (fun r3 e_r3 => ?_)
      obtain ⟨o_r3, h⟩ := h r3 e_r3
      refine WP.callVv (As := [.ref r3]) (st := []) vX5_22 h0.2.1.1 rfl rfl ⟨Nat.le_of_ble_eq_true rfl, Nat.le_of_ble_eq_true rfl⟩ (Nat.le_of_ble_eq_true rfl) rfl (dg tX5_takeBack 31 rfl) h (fun M4 h => ?_)
      refine WP.iconst (v := 1) (dg tX5_takeBack 32 rfl) (by decide) ?_
      exact WP.zret rfl (by decide) (dg tX5_takeBack 33 rfl) ⟨_, rfl, h⟩
theorem sg_X5_copyFrom_0 {T : Th} {M : Mm} {Q : Mm → Prop} {x0 : Nat} {x1 : Nat} (h0 : isX5 T x0) (h1 : isX5 T x1)
    (h : WPv T mX2_copyFrom [.ref (x0 + 1), .ref (x1 + 1)] M (fun M1 => ∀ M2 : Mm, M2 = sI M1 x0 2 (M1.1 x1 2) → WP T mX5_copyFrom 21 [(0, .ref x0), (1, .ref x1), (2, .int 0)] [] M2 (qv Q))) :
    WP T mX5_copyFrom 0 [(0, .ref x0), (1, .ref x1)] [] M (qv Q) := by
  refine WP.aload_n 0 (dg tX5_copyFrom 0 rfl) rfl rfl ?_
  refine WP.getF fX5_12 h0.1 (dg tX5_copyFrom 1 rfl) ?_
  refine WP.aload_n 1 (dg tX5_copyFrom 2 rfl) rfl rfl ?_
  refine WP.getF fX5_12 h1.1 (dg tX5_copyFrom 3 rfl) ?_
  refine WP.callVv (As := [.ref (x1 + 1)]) (st := []) vX5_22 h0.2.1.1 rfl rfl ⟨Nat.le_of_ble_eq_true rfl, Nat.le_of_ble_eq_true rfl⟩ (Nat.le_of_ble_eq_true rfl) rfl (dg tX5_copyFrom 4 rfl) h (fun M1 h => ?_)
  refine WP.aload_n 0 (dg tX5_copyFrom 5 rfl) rfl rfl ?_
  refine WP.aload_n 1 (dg tX5_copyFrom 6 rfl) rfl rfl ?_
  refine WP.getI fX5_26 h1.1 (dg tX5_copyFrom 7 rfl) ?_
  refine WP.putI fX5_26 h0.1 (dg tX5_copyFrom 8 rfl) (fun M2 e_M2 => ?_)
  have h := h M2 e_M2
  refine WP.iconst (v := 0) (dg tX5_copyFrom 9 rfl) (by decide) ?_
  refine WP.istore_n (L2 := [(2, .int 0), (0, .ref x0), (1, .ref x1)]) (dg tX5_copyFrom 10 rfl) rfl (by decide) rfl ?_
  refine WP.sub [1, 2, 0] rfl ?_
  exact h
theorem sg_X5_copyFrom_21 {T : Th} {M : Mm} {Q : Mm → Prop} {x0 : Nat} {x1 : Nat} {x2 : Int32} (h0 : isX5 T x0) (h1 : isX5 T x1)
    (h : ((M.1 x0 2) ≤ x2 → Q M) ∧ (¬ (M.1 x0 2) ≤ x2 → (10 ≤ x2 → Q M) ∧ (¬ 10 ≤ x2 → vp_in x2 10 ∧ (∀ r1 : Nat, r1 = M.2.2 (x0 + 7) x2.toNatClampNeg → isX2 T r1 ∧ (vp_in x2 10 ∧ (∀ r2 : Nat, r2 = M.2.2 (x1 + 7) x2.toNatClampNeg → isX2 T r2 ∧ (vp_in x2 10 ∧ (∀ r3 : Nat, r3 = M.2.2 (x0 + 7) x2.toNatClampNeg → isX2 T r3 ∧ (vp_in x2 10 ∧ (∀ r4 : Nat, r4 = M.2.2 (x1 + 7) x2.toNatClampNeg → isX2 T r4 ∧ (WPv T mX2_copyFrom [.ref r3, .ref r4] M (fun M5 => ∀ v6 : Int32, v6 = x2 + 1 → WP T mX5_copyFrom 21 [(0, .ref x0), (1, .ref x1), (2, .int v6)] [] M5 (qv Q))))))))))))) :
    WP T mX5_copyFrom 21 [(0, .ref x0), (1, .ref x1), (2, .int x2)] [] M (qv Q) := by
  refine WP.iload_n 2 (dg tX5_copyFrom 11 rfl) rfl rfl ?_
  refine WP.aload_n 0 (dg tX5_copyFrom 12 rfl) rfl rfl ?_
  refine WP.getI fX5_26 h0.1 (dg tX5_copyFrom 13 rfl) ?_
  refine WP.icmp_ge (tgt := 74) (dg tX5_copyFrom 14 rfl) (by decide) (fun z => ?_) (fun z => ?_)
  · replace h := h.1 z
    exact WP.vret rfl (dg tX5_copyFrom 39 rfl) ⟨rfl, h⟩
  · replace h := h.2 z
    refine WP.iload_n 2 (dg tX5_copyFrom 15 rfl) rfl rfl ?_
    refine WP.bipush (v := 10) (dg tX5_copyFrom 16 rfl) (by decide) ?_
    refine WP.icmp_ge (tgt := 74) (dg tX5_copyFrom 17 rfl) (by decide) (fun z => ?_) (fun z => ?_)
    · replace h := h.1 z
      exact WP.vret rfl (dg tX5_copyFrom 39 rfl) ⟨rfl, h⟩
    · replace h := h.2 z
      refine WP.aload_n 0 (dg tX5_copyFrom 18 rfl) rfl rfl ?_
      refine WP.getF fX5_18 h0.1 (dg tX5_copyFrom 19 rfl) ?_
      refine WP.iload_n 2 (dg tX5_copyFrom 20 rfl) rfl rfl ?_
      obtain ⟨hb40, h⟩ := h
      refine WP.aald h0.2.2 hb40 (dg tX5_copyFrom 21 rfl) ?_
      refine WP.topr (fun r1 e_r1 => ?_)
      obtain ⟨o_r1, h⟩ := h r1 e_r1
      refine WP.ifnull (dg tX5_copyFrom 22 rfl) ?_
      refine WP.aload_n 1 (dg tX5_copyFrom 23 rfl) rfl rfl ?_
      refine WP.getF fX5_18 h1.1 (dg tX5_copyFrom 24 rfl) ?_
      refine WP.iload_n 2 (dg tX5_copyFrom 25 rfl) rfl rfl ?_
      obtain ⟨hb49, h⟩ := h
      refine WP.aald h1.2.2 hb49 (dg tX5_copyFrom 26 rfl) ?_
      refine WP.topr (fun r2 e_r2 => ?_)
      obtain ⟨o_r2, h⟩ := h r2 e_r2
      refine WP.ifnull (dg tX5_copyFrom 27 rfl) ?_
      refine WP.aload_n 0 (dg tX5_copyFrom 28 rfl) rfl rfl ?_
      refine WP.getF fX5_18 h0.1 (dg tX5_copyFrom 29 rfl) ?_
      refine WP.iload_n 2 (dg tX5_copyFrom 30 rfl) rfl rfl ?_
      obtain ⟨hb58, h⟩ := h
      refine WP.aald h0.2.2 hb58 (dg tX5_copyFrom 31 rfl) ?_
      refine WP.topr (fun r3 e_r3 => ?_)
      obtain ⟨o_r3, h⟩ := h r3 e_r3
      refine WP.aload_n 1 (dg tX5_copyFrom 32 rfl) rfl rfl ?_
      refine WP.getF fX5_18 h1.1 (dg tX5_copyFrom 33 rfl) ?_
      refine WP.iload_n 2 (dg tX5_copyFrom 34 rfl) rfl rfl ?_
      obtain ⟨hb64, h⟩ := h
      refine WP.aald h1.2.2 hb64 (dg tX5_copyFrom 35 rfl) ?_
      refine WP.topr (fun r4 e_r4 => ?_)
      obtain ⟨o_r4, h⟩ := h r4 e_r4
      refine WP.callVv (As := [.ref r4]) (st := []) vX5_22 o_r3.1 rfl rfl ⟨Nat.le_of_ble_eq_true rfl, Nat.le_of_ble_eq_true rfl⟩ (Nat.le_of_ble_eq_true rfl) rfl (dg tX5_copyFrom 36 rfl) h (fun M5 h => ?_)
      obtain ⟨v6, e_v6⟩ : ∃ y : Int32, y = x2 + 1 := ⟨_, rfl⟩
      have h := h v6 e_v6
      refine WP.iinc (v := v6) (L2 := [(2, .int v6), (0, .ref x0), (1, .ref x1)]) 2 (dg tX5_copyFrom 37 rfl) rfl (by rw [e_v6]; rfl) (by decide) rfl ?_
      refine WP.goto (tgt := 21) (dg tX5_copyFrom 38 rfl) (by decide) ?_
      refine WP.sub [1, 2, 0] rfl ?_
      exact h
theorem sg_X0_foresee_0 {T : Th} {M : Mm} {Q : Mm → Prop} {x0 : Nat} {x1 : Nat} {x2 : Nat} {x3 : Int32} (h0 : isX0 T x0) (h1 : isX1 T x1) (h2 : isX2 T x2)
    (h : ∀ M1 : Mm, M1 = sI M x0 0 (M.1 x2 0) → vp_in x3 5 ∧ (∀ v2 : Int32, v2 = M1.1 (x2 + 1) x3.toNatClampNeg → vp_in x3 5 ∧ (∀ v3 : Int32, v3 = M1.1 (x2 + 3) x3.toNatClampNeg → ∀ M4 : Mm, M4 = sI M1 (x0 + 1) 0 v2 → WP T mX0_foresee 35 [(0, .ref x0), (1, .ref x1), (3, .int x3), (4, .int v2), (5, .int v3), (6, .int 1)] [] M4 (qv Q)))) :
    WP T mX0_foresee 0 [(0, .ref x0), (1, .ref x1), (2, .ref x2), (3, .int x3)] [] M (qv Q) := by
  refine WP.aload_n 0 (dg tX0_foresee 0 rfl) rfl rfl ?_
  refine WP.aload_n 2 (dg tX0_foresee 1 rfl) rfl rfl ?_
  refine WP.getI fX0_19 h2.1 (dg tX0_foresee 2 rfl) ?_
  refine WP.putI fX0_25 h0.1 (dg tX0_foresee 3 rfl) (fun M1 e_M1 => ?_)
  have h := h M1 e_M1
  refine WP.aload_n 2 (dg tX0_foresee 4 rfl) rfl rfl ?_
  refine WP.getF fX0_26 h2.1 (dg tX0_foresee 5 rfl) ?_
  refine WP.iload_n 3 (dg tX0_foresee 6 rfl) rfl rfl ?_
  obtain ⟨hb13, h⟩ := h
  refine WP.iald h2.2.1 hb13 (dg tX0_foresee 7 rfl) ?_
  refine WP.topi (fun v2 e_v2 => ?_)
  have h := h v2 e_v2
  refine WP.istore (L2 := [(4, .int v2), (0, .ref x0), (1, .ref x1), (2, .ref x2), (3, .int x3)]) (dg tX0_foresee 8 rfl) (by decide) rfl ?_
  refine WP.aload_n 3 (dg tX0_foresee 9 rfl) rfl rfl ?_
  refine WP.getF fX0_29 h2.1 (dg tX0_foresee 10 rfl) ?_
  refine WP.iload_n 4 (dg tX0_foresee 11 rfl) rfl rfl ?_
  obtain ⟨hb21, h⟩ := h
  refine WP.iald h2.2.2.2.1 hb21 (dg tX0_foresee 12 rfl) ?_
  refine WP.topi (fun v3 e_v3 => ?_)
  have h := h v3 e_v3
  refine WP.istore (L2 := [(5, .int v3), (4, .int v2), (0, .ref x0), (1, .ref x1), (2, .ref x2), (3, .int x3)]) (dg tX0_foresee 13 rfl) (by decide) rfl ?_
  refine WP.aload_n 2 (dg tX0_foresee 14 rfl) rfl rfl ?_
  refine WP.getF fX0_9 h0.1 (dg tX0_foresee 15 rfl) ?_
  refine WP.iconst (v := 0) (dg tX0_foresee 16 rfl) (by decide) ?_
  refine WP.iload 1 (dg tX0_foresee 17 rfl) rfl ?_
  refine WP.iastc (k := 0) h0.2.1 (by decide) (by decide) (dg tX0_foresee 18 rfl) (fun M4 e_M4 => ?_)
  have h := h M4 e_M4
  refine WP.iconst (v := 1) (dg tX0_foresee 19 rfl) (by decide) ?_
  refine WP.istore (L2 := [(6, .int 1), (5, .int v3), (4, .int v2), (0, .ref x0), (1, .ref x1), (2, .ref x2), (3, .int x3)]) (dg tX0_foresee 20 rfl) (by decide) rfl ?_
  refine WP.sub [3, 4, 6, 2, 1, 0] rfl ?_
  exact h
theorem sg_X0_foresee_35 {T : Th} {M : Mm} {Q : Mm → Prop} {x0 : Nat} {x1 : Nat} {x3 : Int32} {x4 : Int32} {x5 : Int32} {x6 : Int32} (h0 : isX0 T x0) (h1 : isX1 T x1)
    (h : (12 < x6 → Q M) ∧ (¬ 12 < x6 → ∀ v1 : Int32, v1 = (if 0 < (x5 - 1) then (x5 - 1) else 0) → (¬ v1 = 0 → vp_in x6 13 ∧ (∀ M2 : Mm, M2 = sI M (x0 + 1) x6.toNatClampNeg x4 → ∀ v3 : Int32, v3 = x6 + 1 → WP T mX0_foresee 35 [(0, .ref x0), (1, .ref x1), (3, .int x3), (4, .int x4), (5, .int v1), (6, .int v3)] [] M2 (qv Q))) ∧ (v1 = 0 → ∀ v2 : Int32, v2 = x4 + 1 → WPi T mX1_minutesFor [.ref x1, .int x3, .int v2] M (fun v4 M3 => vp_in x6 13 ∧ (∀ M5 : Mm, M5 = sI M3 (x0 + 1) x6.toNatClampNeg v2 → ∀ v6 : Int32, v6 = x6 + 1 → WP T mX0_foresee 35 [(0, .ref x0), (1, .ref x1), (3, .int x3), (4, .int v2), (5, .int v4), (6, .int v6)] [] M5 (qv Q)))))) :
    WP T mX0_foresee 35 [(0, .ref x0), (1, .ref x1), (3, .int x3), (4, .int x4), (5, .int x5), (6, .int x6)] [] M (qv Q) := by
  refine WP.iload 5 (dg tX0_foresee 21 rfl) rfl ?_
  refine WP.bipush (v := 12) (dg tX0_foresee 22 rfl) (by decide) ?_
  refine WP.icmp_gt (tgt := 84) (dg tX0_foresee 23 rfl) (by decide) (fun z => ?_) (fun z => ?_)
  · replace h := h.1 z
    exact WP.vret rfl (dg tX0_foresee 45 rfl) ⟨rfl, h⟩
  · replace h := h.2 z
    refine WP.iconst (v := 0) (dg tX0_foresee 24 rfl) (by decide) ?_
    refine WP.iload 4 (dg tX0_foresee 25 rfl) rfl ?_
    refine WP.iconst (v := 1) (dg tX0_foresee 26 rfl) (by decide) ?_
    refine WP.isub (dg tX0_foresee 27 rfl) ?_
    refine WP.mmax vX0_32 (by decide) (Nat.le_of_ble_eq_true rfl) (dg tX0_foresee 28 rfl) ?_
    refine WP.topi (fun v1 e_v1 => ?_)
    have h := h v1 e_v1
    refine WP.istore (L2 := [(5, .int v1), (0, .ref x0), (1, .ref x1), (3, .int x3), (4, .int x4), (6, .int x6)]) (dg tX0_foresee 29 rfl) (by decide) rfl ?_
    refine WP.iload 0 (dg tX0_foresee 30 rfl) rfl ?_
    refine WP.if_ne (tgt := 69) (dg tX0_foresee 31 rfl) (by decide) (fun z => ?_) (fun z => ?_)
    · replace h := h.1 z
      refine WP.aload_n 1 (dg tX0_foresee 38 rfl) rfl rfl ?_
      refine WP.getF fX0_9 h0.1 (dg tX0_foresee 39 rfl) ?_
      refine WP.iload 5 (dg tX0_foresee 40 rfl) rfl ?_
      refine WP.iload 4 (dg tX0_foresee 41 rfl) rfl ?_
      obtain ⟨hb77, h⟩ := h
      refine WP.iast h0.2.1 hb77 (dg tX0_foresee 42 rfl) (fun M2 e_M2 => ?_)
      have h := h M2 e_M2
      obtain ⟨v3, e_v3⟩ : ∃ y : Int32, y = x6 + 1 := ⟨_, rfl⟩
      have h := h v3 e_v3
      refine WP.iinc (v := v3) (L2 := [(6, .int v3), (5, .int v1), (0, .ref x0), (1, .ref x1), (3, .int x3), (4, .int x4)]) 5 (dg tX0_foresee 43 rfl) rfl (by rw [e_v3]; rfl) (by decide) rfl ?_
      refine WP.goto (tgt := 35) (dg tX0_foresee 44 rfl) (by decide) ?_
      refine WP.sub [2, 3, 4, 5, 1, 0] rfl ?_
      exact h
    · replace h := h.2 z
      obtain ⟨v2, e_v2⟩ : ∃ y : Int32, y = x4 + 1 := ⟨_, rfl⟩
      have h := h v2 e_v2
      refine WP.iinc (v := v2) (L2 := [(4, .int v2), (5, .int v1), (0, .ref x0), (1, .ref x1), (3, .int x3), (6, .int x6)]) 4 (dg tX0_foresee 32 rfl) rfl (by rw [e_v2]; rfl) (by decide) rfl ?_
      refine WP.aload_n 3 (dg tX0_foresee 33 rfl) rfl rfl ?_
      refine WP.iload_n 4 (dg tX0_foresee 34 rfl) rfl rfl ?_
      refine WP.iload 0 (dg tX0_foresee 35 rfl) rfl ?_
      refine WP.callVi (As := [.int x3, .int v2]) (st := []) vX0_38 h1.1 rfl rfl ⟨Nat.le_of_ble_eq_true rfl, Nat.le_of_ble_eq_true rfl⟩ (Nat.le_of_ble_eq_true rfl) rfl (dg tX0_foresee 36 rfl) h (fun v4 M3 h => ?_)
      refine WP.istore (L2 := [(5, .int v4), (4, .int v2), (0, .ref x0), (1, .ref x1), (3, .int x3), (6, .int x6)]) (dg tX0_foresee 37 rfl) (by decide) rfl ?_
      refine WP.aload_n 2 (dg tX0_foresee 38 rfl) rfl rfl ?_
      refine WP.getF fX0_9 h0.1 (dg tX0_foresee 39 rfl) ?_
      refine WP.iload 5 (dg tX0_foresee 40 rfl) rfl ?_
      refine WP.iload 1 (dg tX0_foresee 41 rfl) rfl ?_
      obtain ⟨hb77, h⟩ := h
      refine WP.iast h0.2.1 hb77 (dg tX0_foresee 42 rfl) (fun M5 e_M5 => ?_)
      have h := h M5 e_M5
      obtain ⟨v6, e_v6⟩ : ∃ y : Int32, y = x6 + 1 := ⟨_, rfl⟩
      have h := h v6 e_v6
      refine WP.iinc (v := v6) (L2 := [(6, .int v6), (5, .int v4), (4, .int v2), (0, .ref x0), (1, .ref x1), (3, .int x3)]) 5 (dg tX0_foresee 43 rfl) rfl (by rw [e_v6]; rfl) (by decide) rfl ?_
      refine WP.goto (tgt := 35) (dg tX0_foresee 44 rfl) (by decide) ?_
      refine WP.sub [3, 4, 5, 2, 1, 0] rfl ?_
      exact h
theorem sg_X0_runsAhead_0 {T : Th} {M : Mm} {Q : Int64 → Mm → Prop} {x0 : Nat} {x1 : Nat} {x2 : Int32} {x3 : Int32} {x4 : Int32} (h0 : isX0 T x0) (h1 : isX1 T x1)
    (h : WP T mX0_runsAhead 3 [(0, .ref x0), (1, .ref x1), (2, .int x2), (3, .int x3), (4, .int x4), (5, .int 0)] [] M (ql Q)) :
    WP T mX0_runsAhead 0 [(0, .ref x0), (1, .ref x1), (2, .int x2), (3, .int x3), (4, .int x4)] [] M (ql Q) := by
  refine WP.iconst (v := 0) (dg tX0_runsAhead 0 rfl) (by decide) ?_
  refine WP.istore (L2 := [(5, .int 0), (0, .ref x0), (1, .ref x1), (2, .int x2), (3, .int x3), (4, .int x4)]) (dg tX0_runsAhead 1 rfl) (by decide) rfl ?_
  refine WP.sub [1, 2, 3, 4, 5, 0] rfl ?_
  exact h
theorem sg_X0_runsAhead_3 {T : Th} {M : Mm} {Q : Int64 → Mm → Prop} {x0 : Nat} {x1 : Nat} {x2 : Int32} {x3 : Int32} {x4 : Int32} {x5 : Int32} (h0 : isX0 T x0) (h1 : isX1 T x1)
    (h : (12 < x5 → WP T mX0_runsAhead 36 [(0, .ref x0), (1, .ref x1), (2, .int x2), (3, .int x3), (4, .int x4), (5, .int 1)] [] M (ql Q)) ∧ (¬ 12 < x5 → (¬ x5 = 0 → vp_in x5 13 ∧ (∀ M1 : Mm, M1 = sL M (x0 + 2) x5.toNatClampNeg 0 → ∀ v2 : Int32, v2 = x5 + 1 → WP T mX0_runsAhead 3 [(0, .ref x0), (1, .ref x1), (2, .int x2), (3, .int x3), (4, .int x4), (5, .int v2)] [] M1 (ql Q))) ∧ (x5 = 0 → vp_in x5 13 ∧ (∀ M1 : Mm, M1 = sL M (x0 + 2) x5.toNatClampNeg 1 → ∀ v2 : Int32, v2 = x5 + 1 → WP T mX0_runsAhead 3 [(0, .ref x0), (1, .ref x1), (2, .int x2), (3, .int x3), (4, .int x4), (5, .int v2)] [] M1 (ql Q))))) :
    WP T mX0_runsAhead 3 [(0, .ref x0), (1, .ref x1), (2, .int x2), (3, .int x3), (4, .int x4), (5, .int x5)] [] M (ql Q) := by
  refine WP.iload 5 (dg tX0_runsAhead 2 rfl) rfl ?_
  refine WP.bipush (v := 12) (dg tX0_runsAhead 3 rfl) (by decide) ?_
  refine WP.icmp_gt (tgt := 33) (dg tX0_runsAhead 4 rfl) (by decide) (fun z => ?_) (fun z => ?_)
  · replace h := h.1 z
    refine WP.iconst (v := 1) (dg tX0_runsAhead 16 rfl) (by decide) ?_
    refine WP.istore (L2 := [(5, .int 1), (0, .ref x0), (1, .ref x1), (2, .int x2), (3, .int x3), (4, .int x4)]) (dg tX0_runsAhead 17 rfl) (by decide) rfl ?_
    refine WP.sub [1, 2, 3, 4, 5, 0] rfl ?_
    exact h
  · replace h := h.2 z
    refine WP.aload_n 0 (dg tX0_runsAhead 5 rfl) rfl rfl ?_
    refine WP.getF fX0_15 h0.1 (dg tX0_runsAhead 6 rfl) ?_
    refine WP.iload 5 (dg tX0_runsAhead 7 rfl) rfl ?_
    refine WP.iload 5 (dg tX0_runsAhead 8 rfl) rfl ?_
    refine WP.if_ne (tgt := 25) (dg tX0_runsAhead 9 rfl) (by decide) (fun z => ?_) (fun z => ?_)
    · replace h := h.1 z
      refine WP.lconst (v := 0) (dg tX0_runsAhead 12 rfl) (by decide) ?_
      obtain ⟨hb26, h⟩ := h
      refine WP.last h0.2.2 hb26 (dg tX0_runsAhead 13 rfl) (fun M1 e_M1 => ?_)
      have h := h M1 e_M1
      obtain ⟨v2, e_v2⟩ : ∃ y : Int32, y = x5 + 1 := ⟨_, rfl⟩
      have h := h v2 e_v2
      refine WP.iinc (v := v2) (L2 := [(5, .int v2), (0, .ref x0), (1, .ref x1), (2, .int x2), (3, .int x3), (4, .int x4)]) 5 (dg tX0_runsAhead 14 rfl) rfl (by rw [e_v2]; rfl) (by decide) rfl ?_
      refine WP.goto (tgt := 3) (dg tX0_runsAhead 15 rfl) (by decide) ?_
      refine WP.sub [1, 2, 3, 4, 5, 0] rfl ?_
      exact h
    · replace h := h.2 z
      refine WP.lconst (v := 1) (dg tX0_runsAhead 10 rfl) (by decide) ?_
      refine WP.goto (tgt := 26) (dg tX0_runsAhead 11 rfl) (by decide) ?_
      obtain ⟨hb26, h⟩ := h
      refine WP.last h0.2.2 hb26 (dg tX0_runsAhead 13 rfl) (fun M1 e_M1 => ?_)
      have h := h M1 e_M1
      obtain ⟨v2, e_v2⟩ : ∃ y : Int32, y = x5 + 1 := ⟨_, rfl⟩
      have h := h v2 e_v2
      refine WP.iinc (v := v2) (L2 := [(5, .int v2), (0, .ref x0), (1, .ref x1), (2, .int x2), (3, .int x3), (4, .int x4)]) 5 (dg tX0_runsAhead 14 rfl) rfl (by rw [e_v2]; rfl) (by decide) rfl ?_
      refine WP.goto (tgt := 3) (dg tX0_runsAhead 15 rfl) (by decide) ?_
      refine WP.sub [1, 2, 3, 4, 5, 0] rfl ?_
      exact h
theorem sg_X0_runsAhead_36 {T : Th} {M : Mm} {Q : Int64 → Mm → Prop} {x0 : Nat} {x1 : Nat} {x2 : Int32} {x3 : Int32} {x4 : Int32} {x5 : Int32} (h0 : isX0 T x0) (h1 : isX1 T x1)
    (h : (x3 < x5 → WP T mX0_runsAhead 81 [(0, .ref x0), (5, .long 0), (7, .int 0)] [] M (ql Q)) ∧ (¬ x3 < x5 → (12 < x5 → WP T mX0_runsAhead 81 [(0, .ref x0), (5, .long 0), (7, .int 0)] [] M (ql Q)) ∧ (¬ 12 < x5 → WPi T mX1_sunWay [.ref x1, .int ((M.1 x0 0) + x5), .int x4] M (fun v2 M1 => WPv T mX0_chanceMinute [.ref x0, .int x2, .int x5, .int v2] M1 (fun M3 => ∀ v4 : Int32, v4 = x5 + 1 → WP T mX0_runsAhead 36 [(0, .ref x0), (1, .ref x1), (2, .int x2), (3, .int x3), (4, .int x4), (5, .int v4)] [] M3 (ql Q)))))) :
    WP T mX0_runsAhead 36 [(0, .ref x0), (1, .ref x1), (2, .int x2), (3, .int x3), (4, .int x4), (5, .int x5)] [] M (ql Q) := by
  refine WP.iload 5 (dg tX0_runsAhead 18 rfl) rfl ?_
  refine WP.iload_n 3 (dg tX0_runsAhead 19 rfl) rfl rfl ?_
  refine WP.icmp_gt (tgt := 75) (dg tX0_runsAhead 20 rfl) (by decide) (fun z => ?_) (fun z => ?_)
  · replace h := h.1 z
    refine WP.lconst (v := 0) (dg tX0_runsAhead 37 rfl) (by decide) ?_
    refine WP.lstore (L2 := [(5, .long 0), (0, .ref x0), (1, .ref x1), (2, .int x2), (3, .int x3), (4, .int x4)]) (dg tX0_runsAhead 38 rfl) (by decide) rfl ?_
    refine WP.iconst (v := 0) (dg tX0_runsAhead 39 rfl) (by decide) ?_
    refine WP.istore (L2 := [(7, .int 0), (5, .long 0), (0, .ref x0), (1, .ref x1), (2, .int x2), (3, .int x3), (4, .int x4)]) (dg tX0_runsAhead 40 rfl) (by decide) rfl ?_
    refine WP.sub [2, 1, 0] rfl ?_
    exact h
  · replace h := h.2 z
    refine WP.iload 5 (dg tX0_runsAhead 21 rfl) rfl ?_
    refine WP.bipush (v := 12) (dg tX0_runsAhead 22 rfl) (by decide) ?_
    refine WP.icmp_gt (tgt := 75) (dg tX0_runsAhead 23 rfl) (by decide) (fun z => ?_) (fun z => ?_)
    · replace h := h.1 z
      refine WP.lconst (v := 0) (dg tX0_runsAhead 37 rfl) (by decide) ?_
      refine WP.lstore (L2 := [(5, .long 0), (0, .ref x0), (1, .ref x1), (2, .int x2), (3, .int x3), (4, .int x4)]) (dg tX0_runsAhead 38 rfl) (by decide) rfl ?_
      refine WP.iconst (v := 0) (dg tX0_runsAhead 39 rfl) (by decide) ?_
      refine WP.istore (L2 := [(7, .int 0), (5, .long 0), (0, .ref x0), (1, .ref x1), (2, .int x2), (3, .int x3), (4, .int x4)]) (dg tX0_runsAhead 40 rfl) (by decide) rfl ?_
      refine WP.sub [2, 1, 0] rfl ?_
      exact h
    · replace h := h.2 z
      refine WP.aload_n 0 (dg tX0_runsAhead 24 rfl) rfl rfl ?_
      refine WP.iload_n 2 (dg tX0_runsAhead 25 rfl) rfl rfl ?_
      refine WP.iload 5 (dg tX0_runsAhead 26 rfl) rfl ?_
      refine WP.aload_n 1 (dg tX0_runsAhead 27 rfl) rfl rfl ?_
      refine WP.aload_n 0 (dg tX0_runsAhead 28 rfl) rfl rfl ?_
      refine WP.getI fX0_25 h0.1 (dg tX0_runsAhead 29 rfl) ?_
      refine WP.iload 5 (dg tX0_runsAhead 30 rfl) rfl ?_
      refine WP.iadd (dg tX0_runsAhead 31 rfl) ?_
      refine WP.iload 4 (dg tX0_runsAhead 32 rfl) rfl ?_
      refine WP.callVi (As := [.int ((M.1 x0 0) + x5), .int x4]) (st := [.int x5, .int x2, .ref x0]) vX0_43 h1.1 rfl rfl ⟨Nat.le_of_ble_eq_true rfl, Nat.le_of_ble_eq_true rfl⟩ (Nat.le_of_ble_eq_true rfl) rfl (dg tX0_runsAhead 33 rfl) h (fun v2 M1 h => ?_)
      refine WP.callVv (As := [.int x2, .int x5, .int v2]) (st := []) vX0_46 h0.1 rfl rfl ⟨Nat.le_of_ble_eq_true rfl, Nat.le_of_ble_eq_true rfl⟩ (Nat.le_of_ble_eq_true rfl) rfl (dg tX0_runsAhead 34 rfl) h (fun M3 h => ?_)
      obtain ⟨v4, e_v4⟩ : ∃ y : Int32, y = x5 + 1 := ⟨_, rfl⟩
      have h := h v4 e_v4
      refine WP.iinc (v := v4) (L2 := [(5, .int v4), (0, .ref x0), (1, .ref x1), (2, .int x2), (3, .int x3), (4, .int x4)]) 5 (dg tX0_runsAhead 35 rfl) rfl (by rw [e_v4]; rfl) (by decide) rfl ?_
      refine WP.goto (tgt := 36) (dg tX0_runsAhead 36 rfl) (by decide) ?_
      refine WP.sub [1, 2, 3, 4, 5, 0] rfl ?_
      exact h
theorem sg_X0_runsAhead_81 {T : Th} {M : Mm} {Q : Int64 → Mm → Prop} {x0 : Nat} {x5 : Int64} {x7 : Int32} (h0 : isX0 T x0)
    (h : (12 < x7 → Q x5 M) ∧ (¬ 12 < x7 → vp_in x7 13 ∧ (∀ v1 : Int64, v1 = x5 + (M.2.1 (x0 + 2) x7.toNatClampNeg) → ∀ v2 : Int32, v2 = x7 + 1 → WP T mX0_runsAhead 81 [(0, .ref x0), (5, .long v1), (7, .int v2)] [] M (ql Q)))) :
    WP T mX0_runsAhead 81 [(0, .ref x0), (5, .long x5), (7, .int x7)] [] M (ql Q) := by
  refine WP.iload 2 (dg tX0_runsAhead 41 rfl) rfl ?_
  refine WP.bipush (v := 12) (dg tX0_runsAhead 42 rfl) (by decide) ?_
  refine WP.icmp_gt (tgt := 106) (dg tX0_runsAhead 43 rfl) (by decide) (fun z => ?_) (fun z => ?_)
  · replace h := h.1 z
    refine WP.lload 1 (dg tX0_runsAhead 53 rfl) rfl ?_
    exact WP.lret rfl (dg tX0_runsAhead 54 rfl) ⟨_, rfl, h⟩
  · replace h := h.2 z
    refine WP.lload 1 (dg tX0_runsAhead 44 rfl) rfl ?_
    refine WP.aload_n 0 (dg tX0_runsAhead 45 rfl) rfl rfl ?_
    refine WP.getF fX0_15 h0.1 (dg tX0_runsAhead 46 rfl) ?_
    refine WP.iload 2 (dg tX0_runsAhead 47 rfl) rfl ?_
    obtain ⟨hb96, h⟩ := h
    refine WP.lald h0.2.2 hb96 (dg tX0_runsAhead 48 rfl) ?_
    refine WP.ladd (dg tX0_runsAhead 49 rfl) ?_
    refine WP.topl (fun v1 e_v1 => ?_)
    have h := h v1 e_v1
    refine WP.lstore (L2 := [(5, .long v1), (0, .ref x0), (7, .int x7)]) (dg tX0_runsAhead 50 rfl) (by decide) rfl ?_
    obtain ⟨v2, e_v2⟩ : ∃ y : Int32, y = x7 + 1 := ⟨_, rfl⟩
    have h := h v2 e_v2
    refine WP.iinc (v := v2) (L2 := [(7, .int v2), (5, .long v1), (0, .ref x0)]) 2 (dg tX0_runsAhead 51 rfl) rfl (by rw [e_v2]; rfl) (by decide) rfl ?_
    refine WP.goto (tgt := 81) (dg tX0_runsAhead 52 rfl) (by decide) ?_
    refine WP.sub [2, 1, 0] rfl ?_
    exact h
theorem sg_X0_chanceMinute_0 {T : Th} {M : Mm} {Q : Mm → Prop} {x0 : Nat} {x1 : Int32} {x2 : Int32} {x3 : Int32} (h0 : isX0 T x0)
    (h : ∀ v1 : Int32, v1 = (if 12 < x2 then 12 else x2) → WP T mX0_chanceMinute 8 [(0, .ref x0), (1, .int x1), (3, .int x3), (4, .int v1)] [] M (qv Q)) :
    WP T mX0_chanceMinute 0 [(0, .ref x0), (1, .int x1), (2, .int x2), (3, .int x3)] [] M (qv Q) := by
  refine WP.iload_n 2 (dg tX0_chanceMinute 0 rfl) rfl rfl ?_
  refine WP.bipush (v := 12) (dg tX0_chanceMinute 1 rfl) (by decide) ?_
  refine WP.mmin vX0_50 (by decide) (Nat.le_of_ble_eq_true rfl) (dg tX0_chanceMinute 2 rfl) ?_
  refine WP.topi (fun v1 e_v1 => ?_)
  have h := h v1 e_v1
  refine WP.istore (L2 := [(4, .int v1), (0, .ref x0), (1, .int x1), (2, .int x2), (3, .int x3)]) (dg tX0_chanceMinute 3 rfl) (by decide) rfl ?_
  refine WP.sub [1, 2, 4, 0] rfl ?_
  exact h
theorem sg_X0_chanceMinute_8 {T : Th} {M : Mm} {Q : Mm → Prop} {x0 : Nat} {x1 : Int32} {x3 : Int32} {x4 : Int32} (h0 : isX0 T x0)
    (h : (x4 < 0 → Q M) ∧ (¬ x4 < 0 → vp_in x4 13 ∧ (∀ v1 : Int64, v1 = (M.2.1 (x0 + 2) x4.toNatClampNeg) * x1.toInt64 → (x4 ≤ 0 → WP T mX0_chanceMinute 49 [(0, .ref x0), (1, .int x1), (3, .int x3), (4, .int x4), (5, .long v1)] [.long 0] M (qv Q)) ∧ (¬ x4 ≤ 0 → vp_in (x4 - 1) 13 ∧ (WP T mX0_chanceMinute 49 [(0, .ref x0), (1, .int x1), (3, .int x3), (4, .int x4), (5, .long v1)] [.long ((M.2.1 (x0 + 2) (x4 - 1).toNatClampNeg) * ((10 - x1).toInt64))] M (qv Q)))))) :
    WP T mX0_chanceMinute 8 [(0, .ref x0), (1, .int x1), (3, .int x3), (4, .int x4)] [] M (qv Q) := by
  refine WP.iload 3 (dg tX0_chanceMinute 4 rfl) rfl ?_
  refine WP.if_lt (tgt := 84) (dg tX0_chanceMinute 5 rfl) (by decide) (fun z => ?_) (fun z => ?_)
  · replace h := h.1 z
    exact WP.vret rfl (dg tX0_chanceMinute 47 rfl) ⟨rfl, h⟩
  · replace h := h.2 z
    refine WP.aload_n 0 (dg tX0_chanceMinute 6 rfl) rfl rfl ?_
    refine WP.getF fX0_15 h0.1 (dg tX0_chanceMinute 7 rfl) ?_
    refine WP.iload 3 (dg tX0_chanceMinute 8 rfl) rfl ?_
    obtain ⟨hb19, h⟩ := h
    refine WP.lald h0.2.2 hb19 (dg tX0_chanceMinute 9 rfl) ?_
    refine WP.iload_n 1 (dg tX0_chanceMinute 10 rfl) rfl rfl ?_
    refine WP.i2l (dg tX0_chanceMinute 11 rfl) ?_
    refine WP.lmul (dg tX0_chanceMinute 12 rfl) ?_
    refine WP.topl (fun v1 e_v1 => ?_)
    have h := h v1 e_v1
    refine WP.lstore (L2 := [(5, .long v1), (0, .ref x0), (1, .int x1), (3, .int x3), (4, .int x4)]) (dg tX0_chanceMinute 13 rfl) (by decide) rfl ?_
    refine WP.iload 4 (dg tX0_chanceMinute 14 rfl) rfl ?_
    refine WP.if_le (tgt := 48) (dg tX0_chanceMinute 15 rfl) (by decide) (fun z => ?_) (fun z => ?_)
    · replace h := h.1 z
      refine WP.lconst (v := 0) (dg tX0_chanceMinute 28 rfl) (by decide) ?_
      refine WP.sub [1, 2, 3, 4, 0] rfl ?_
      exact h
    · replace h := h.2 z
      refine WP.aload_n 1 (dg tX0_chanceMinute 16 rfl) rfl rfl ?_
      refine WP.getF fX0_15 h0.1 (dg tX0_chanceMinute 17 rfl) ?_
      refine WP.iload 4 (dg tX0_chanceMinute 18 rfl) rfl ?_
      refine WP.iconst (v := 1) (dg tX0_chanceMinute 19 rfl) (by decide) ?_
      refine WP.isub (dg tX0_chanceMinute 20 rfl) ?_
      obtain ⟨hb38, h⟩ := h
      refine WP.lald h0.2.2 hb38 (dg tX0_chanceMinute 21 rfl) ?_
      refine WP.bipush (v := 10) (dg tX0_chanceMinute 22 rfl) (by decide) ?_
      refine WP.iload_n 2 (dg tX0_chanceMinute 23 rfl) rfl rfl ?_
      refine WP.isub (dg tX0_chanceMinute 24 rfl) ?_
      refine WP.i2l (dg tX0_chanceMinute 25 rfl) ?_
      refine WP.lmul (dg tX0_chanceMinute 26 rfl) ?_
      refine WP.goto (tgt := 49) (dg tX0_chanceMinute 27 rfl) (by decide) ?_
      refine WP.sub [1, 2, 3, 4, 0] rfl ?_
      exact h
theorem sg_X0_chanceMinute_49 {T : Th} {M : Mm} {Q : Mm → Prop} {x0 : Nat} {x1 : Int32} {x3 : Int32} {x4 : Int32} {x5 : Int64} {s0 : Int64} (h0 : isX0 T x0)
    (h : vp_in x4 13 ∧ (((M.1 (x0 + 1) x4.toNatClampNeg) ≤ x3 → vp_in x4 13 ∧ (∀ M1 : Mm, M1 = sL M (x0 + 2) x4.toNatClampNeg 0 → ∀ v2 : Int32, v2 = x4 + (-1) → WP T mX0_chanceMinute 8 [(0, .ref x0), (1, .int x1), (3, .int x3), (4, .int v2)] [] M1 (qv Q))) ∧ (¬ (M.1 (x0 + 1) x4.toNatClampNeg) ≤ x3 → vp_in x4 13 ∧ (∀ M1 : Mm, M1 = sL M (x0 + 2) x4.toNatClampNeg (x5 + s0) → ∀ v2 : Int32, v2 = x4 + (-1) → WP T mX0_chanceMinute 8 [(0, .ref x0), (1, .int x1), (3, .int x3), (4, .int v2)] [] M1 (qv Q))))) :
    WP T mX0_chanceMinute 49 [(0, .ref x0), (1, .int x1), (3, .int x3), (4, .int x4), (5, .long x5)] [.long s0] M (qv Q) := by
  refine WP.lstore (L2 := [(7, .long s0), (0, .ref x0), (1, .int x1), (3, .int x3), (4, .int x4), (5, .long x5)]) (dg tX0_chanceMinute 29 rfl) (by decide) rfl ?_
  refine WP.aload_n 1 (dg tX0_chanceMinute 30 rfl) rfl rfl ?_
  refine WP.getF fX0_15 h0.1 (dg tX0_chanceMinute 31 rfl) ?_
  refine WP.iload 4 (dg tX0_chanceMinute 32 rfl) rfl ?_
  refine WP.aload_n 1 (dg tX0_chanceMinute 33 rfl) rfl rfl ?_
  refine WP.getF fX0_9 h0.1 (dg tX0_chanceMinute 34 rfl) ?_
  refine WP.iload 4 (dg tX0_chanceMinute 35 rfl) rfl ?_
  obtain ⟨hb63, h⟩ := h
  refine WP.iald h0.2.1 hb63 (dg tX0_chanceMinute 36 rfl) ?_
  refine WP.iload_n 3 (dg tX0_chanceMinute 37 rfl) rfl rfl ?_
  refine WP.icmp_le (tgt := 76) (dg tX0_chanceMinute 38 rfl) (by decide) (fun z => ?_) (fun z => ?_)
  · replace h := h.1 z
    refine WP.lconst (v := 0) (dg tX0_chanceMinute 43 rfl) (by decide) ?_
    obtain ⟨hb77, h⟩ := h
    refine WP.last h0.2.2 hb77 (dg tX0_chanceMinute 44 rfl) (fun M1 e_M1 => ?_)
    have h := h M1 e_M1
    obtain ⟨v2, e_v2⟩ : ∃ y : Int32, y = x4 + (-1) := ⟨_, rfl⟩
    have h := h v2 e_v2
    refine WP.iinc (v := v2) (L2 := [(4, .int v2), (7, .long s0), (0, .ref x0), (1, .int x1), (3, .int x3), (5, .long x5)]) 4 (dg tX0_chanceMinute 45 rfl) rfl (by rw [e_v2]; rfl) (by decide) rfl ?_
    refine WP.goto (tgt := 8) (dg tX0_chanceMinute 46 rfl) (by decide) ?_
    refine WP.sub [2, 3, 4, 0] rfl ?_
    exact h
  · replace h := h.2 z
    refine WP.lload 5 (dg tX0_chanceMinute 39 rfl) rfl ?_
    refine WP.lload 0 (dg tX0_chanceMinute 40 rfl) rfl ?_
    refine WP.ladd (dg tX0_chanceMinute 41 rfl) ?_
    refine WP.goto (tgt := 77) (dg tX0_chanceMinute 42 rfl) (by decide) ?_
    obtain ⟨hb77, h⟩ := h
    refine WP.last h0.2.2 hb77 (dg tX0_chanceMinute 44 rfl) (fun M1 e_M1 => ?_)
    have h := h M1 e_M1
    obtain ⟨v2, e_v2⟩ : ∃ y : Int32, y = x4 + (-1) := ⟨_, rfl⟩
    have h := h v2 e_v2
    refine WP.iinc (v := v2) (L2 := [(4, .int v2), (7, .long s0), (0, .ref x0), (1, .int x1), (3, .int x3), (5, .long x5)]) 4 (dg tX0_chanceMinute 45 rfl) rfl (by rw [e_v2]; rfl) (by decide) rfl ?_
    refine WP.goto (tgt := 8) (dg tX0_chanceMinute 46 rfl) (by decide) ?_
    refine WP.sub [2, 3, 4, 0] rfl ?_
    exact h
theorem sg_X4_add_0 {T : Th} {M : Mm} {Q : Int32 → Mm → Prop} {x0 : Nat} {x1 : Int32} (h0 : isX4 T x0)
    (h : ((M.1 x0 1) < 0 → Q 0 M) ∧ (¬ (M.1 x0 1) < 0 → ((M.1 x0 1) < 200 → vp_in (M.1 x0 1) 200 ∧ (∀ M1 : Mm, M1 = sI M (x0 + 1) (M.1 x0 1).toNatClampNeg x1 → ∀ M2 : Mm, M2 = sI M1 x0 1 ((M1.1 x0 1) + 1) → Q 1 M2)) ∧ (¬ (M.1 x0 1) < 200 → Q 0 M))) :
    WP T mX4_add 0 [(0, .ref x0), (1, .int x1)] [] M (qi Q) := by
  refine WP.aload_n 0 (dg tX4_add 0 rfl) rfl rfl ?_
  refine WP.getI fX4_15 h0.1 (dg tX4_add 1 rfl) ?_
  refine WP.if_lt (tgt := 17) (dg tX4_add 2 rfl) (by decide) (fun z => ?_) (fun z => ?_)
  · replace h := h.1 z
    refine WP.iconst (v := 0) (dg tX4_add 7 rfl) (by decide) ?_
    exact WP.zret rfl (by decide) (dg tX4_add 8 rfl) ⟨_, rfl, h⟩
  · replace h := h.2 z
    refine WP.aload_n 0 (dg tX4_add 3 rfl) rfl rfl ?_
    refine WP.getI fX4_15 h0.1 (dg tX4_add 4 rfl) ?_
    refine WP.sipush (v := 200) (dg tX4_add 5 rfl) (by decide) ?_
    refine WP.icmp_lt (tgt := 19) (dg tX4_add 6 rfl) (by decide) (fun z => ?_) (fun z => ?_)
    · replace h := h.1 z
      refine WP.aload_n 0 (dg tX4_add 9 rfl) rfl rfl ?_
      refine WP.getF fX4_9 h0.1 (dg tX4_add 10 rfl) ?_
      refine WP.aload_n 0 (dg tX4_add 11 rfl) rfl rfl ?_
      refine WP.getI fX4_15 h0.1 (dg tX4_add 12 rfl) ?_
      refine WP.iload_n 1 (dg tX4_add 13 rfl) rfl rfl ?_
      obtain ⟨hb28, h⟩ := h
      refine WP.iast h0.2 hb28 (dg tX4_add 14 rfl) (fun M1 e_M1 => ?_)
      have h := h M1 e_M1
      refine WP.aload_n 0 (dg tX4_add 15 rfl) rfl rfl ?_
      refine WP.dup (dg tX4_add 16 rfl) rfl ?_
      refine WP.getI fX4_15 h0.1 (dg tX4_add 17 rfl) ?_
      refine WP.iconst (v := 1) (dg tX4_add 18 rfl) (by decide) ?_
      refine WP.iadd (dg tX4_add 19 rfl) ?_
      refine WP.putI fX4_15 h0.1 (dg tX4_add 20 rfl) (fun M2 e_M2 => ?_)
      have h := h M2 e_M2
      refine WP.iconst (v := 1) (dg tX4_add 21 rfl) (by decide) ?_
      exact WP.zret rfl (by decide) (dg tX4_add 22 rfl) ⟨_, rfl, h⟩
    · replace h := h.2 z
      refine WP.iconst (v := 0) (dg tX4_add 7 rfl) (by decide) ?_
      exact WP.zret rfl (by decide) (dg tX4_add 8 rfl) ⟨_, rfl, h⟩
theorem sg_X4_tell_0 {T : Th} {M : Mm} {Q : Int32 → Mm → Prop} {x0 : Nat} {x1 : Nat} (h0 : isX4 T x0) (h1 : isX1 T x1)
    (h : ∀ M1 : Mm, M1 = sI M x0 2 0 → ∀ M2 : Mm, M2 = sI M1 x0 6 0 → WPv T mX4_readToken [.ref x0] M2 (fun M3 => WP T mX4_tell 18 [(0, .ref x0), (1, .ref x1), (2, .int 0), (3, .int 0)] [] M3 (qi Q))) :
    WP T mX4_tell 0 [(0, .ref x0), (1, .ref x1)] [] M (qi Q) := by
  refine WP.aload_n 0 (dg tX4_tell 0 rfl) rfl rfl ?_
  refine WP.iconst (v := 0) (dg tX4_tell 1 rfl) (by decide) ?_
  refine WP.putI fX4_19 h0.1 (dg tX4_tell 2 rfl) (fun M1 e_M1 => ?_)
  have h := h M1 e_M1
  refine WP.aload_n 0 (dg tX4_tell 3 rfl) rfl rfl ?_
  refine WP.iconst (v := 0) (dg tX4_tell 4 rfl) (by decide) ?_
  refine WP.putZ fX4_22 h0.1 (by decide) (dg tX4_tell 5 rfl) (fun M2 e_M2 => ?_)
  have h := h M2 e_M2
  refine WP.iconst (v := 0) (dg tX4_tell 6 rfl) (by decide) ?_
  refine WP.istore_n (L2 := [(2, .int 0), (0, .ref x0), (1, .ref x1)]) (dg tX4_tell 7 rfl) rfl (by decide) rfl ?_
  refine WP.aload_n 1 (dg tX4_tell 8 rfl) rfl rfl ?_
  refine WP.callVv (As := []) (st := []) vX4_26 h0.1 rfl rfl ⟨Nat.le_of_ble_eq_true rfl, Nat.le_of_ble_eq_true rfl⟩ (Nat.le_of_ble_eq_true rfl) rfl (dg tX4_tell 9 rfl) h (fun M3 h => ?_)
  refine WP.iconst (v := 0) (dg tX4_tell 10 rfl) (by decide) ?_
  refine WP.istore_n (L2 := [(3, .int 0), (2, .int 0), (0, .ref x0), (1, .ref x1)]) (dg tX4_tell 11 rfl) rfl (by decide) rfl ?_
  refine WP.sub [2, 3, 1, 0] rfl ?_
  exact h
theorem sg_X4_tell_18 {T : Th} {M : Mm} {Q : Int32 → Mm → Prop} {x0 : Nat} {x1 : Nat} {x2 : Int32} {x3 : Int32} (h0 : isX4 T x0) (h1 : isX1 T x1)
    (h : (200 < x3 → WP T mX4_tell 69 [(0, .ref x0), (2, .int x2)] [] M (qi Q)) ∧ (¬ 200 < x3 → ((M.1 x0 3) = 0 → WP T mX4_tell 69 [(0, .ref x0), (2, .int x2)] [] M (qi Q)) ∧ (¬ (M.1 x0 3) = 0 → (¬ (M.1 x0 6) = 0 → WP T mX4_tell 69 [(0, .ref x0), (2, .int x2)] [] M (qi Q)) ∧ ((M.1 x0 6) = 0 → WPv T mX4_tellItem [.ref x0, .ref x1, .int x2] M (fun M1 => WPv T mX4_readStop [.ref x0] M1 (fun M2 => ∀ v3 : Int32, v3 = x2 + 1 → (¬ (M2.1 x0 6) = 0 → ∀ v4 : Int32, v4 = x3 + 1 → WP T mX4_tell 18 [(0, .ref x0), (1, .ref x1), (2, .int v3), (3, .int v4)] [] M2 (qi Q)) ∧ ((M2.1 x0 6) = 0 → WPv T mX4_readToken [.ref x0] M2 (fun M4 => ∀ v5 : Int32, v5 = x3 + 1 → WP T mX4_tell 18 [(0, .ref x0), (1, .ref x1), (2, .int v3), (3, .int v5)] [] M4 (qi Q))))))))) :
    WP T mX4_tell 18 [(0, .ref x0), (1, .ref x1), (2, .int x2), (3, .int x3)] [] M (qi Q) := by
  refine WP.iload_n 3 (dg tX4_tell 12 rfl) rfl rfl ?_
  refine WP.sipush (v := 200) (dg tX4_tell 13 rfl) (by decide) ?_
  refine WP.icmp_gt (tgt := 69) (dg tX4_tell 14 rfl) (by decide) (fun z => ?_) (fun z => ?_)
  · replace h := h.1 z
    refine WP.sub [0, 2] rfl ?_
    exact h
  · replace h := h.2 z
    refine WP.aload_n 0 (dg tX4_tell 15 rfl) rfl rfl ?_
    refine WP.getI fX4_29 h0.1 (dg tX4_tell 16 rfl) ?_
    refine WP.if_eq (tgt := 69) (dg tX4_tell 17 rfl) (by decide) (fun z => ?_) (fun z => ?_)
    · replace h := h.1 z
      refine WP.sub [0, 2] rfl ?_
      exact h
    · replace h := h.2 z
      refine WP.aload_n 0 (dg tX4_tell 18 rfl) rfl rfl ?_
      refine WP.getI fX4_22 h0.1 (dg tX4_tell 19 rfl) ?_
      refine WP.if_ne (tgt := 69) (dg tX4_tell 20 rfl) (by decide) (fun z => ?_) (fun z => ?_)
      · replace h := h.1 z
        refine WP.sub [0, 2] rfl ?_
        exact h
      · replace h := h.2 z
        refine WP.aload_n 0 (dg tX4_tell 21 rfl) rfl rfl ?_
        refine WP.aload_n 1 (dg tX4_tell 22 rfl) rfl rfl ?_
        refine WP.iload_n 2 (dg tX4_tell 23 rfl) rfl rfl ?_
        refine WP.callVv (As := [.ref x1, .int x2]) (st := []) vX4_32 h0.1 rfl rfl ⟨Nat.le_of_ble_eq_true rfl, Nat.le_of_ble_eq_true rfl⟩ (Nat.le_of_ble_eq_true rfl) rfl (dg tX4_tell 24 rfl) h (fun M1 h => ?_)
        refine WP.aload_n 0 (dg tX4_tell 25 rfl) rfl rfl ?_
        refine WP.callVv (As := []) (st := []) vX4_36 h0.1 rfl rfl ⟨Nat.le_of_ble_eq_true rfl, Nat.le_of_ble_eq_true rfl⟩ (Nat.le_of_ble_eq_true rfl) rfl (dg tX4_tell 26 rfl) h (fun M2 h => ?_)
        obtain ⟨v3, e_v3⟩ : ∃ y : Int32, y = x2 + 1 := ⟨_, rfl⟩
        have h := h v3 e_v3
        refine WP.iinc (v := v3) (L2 := [(2, .int v3), (0, .ref x0), (1, .ref x1), (3, .int x3)]) 2 (dg tX4_tell 27 rfl) rfl (by rw [e_v3]; rfl) (by decide) rfl ?_
        refine WP.aload_n 1 (dg tX4_tell 28 rfl) rfl rfl ?_
        refine WP.getI fX4_22 h0.1 (dg tX4_tell 29 rfl) ?_
        refine WP.if_ne (tgt := 63) (dg tX4_tell 30 rfl) (by decide) (fun z => ?_) (fun z => ?_)
        · replace h := h.1 z
          obtain ⟨v4, e_v4⟩ : ∃ y : Int32, y = x3 + 1 := ⟨_, rfl⟩
          have h := h v4 e_v4
          refine WP.iinc (v := v4) (L2 := [(3, .int v4), (2, .int v3), (0, .ref x0), (1, .ref x1)]) 3 (dg tX4_tell 33 rfl) rfl (by rw [e_v4]; rfl) (by decide) rfl ?_
          refine WP.goto (tgt := 18) (dg tX4_tell 34 rfl) (by decide) ?_
          refine WP.sub [2, 3, 1, 0] rfl ?_
          exact h
        · replace h := h.2 z
          refine WP.aload_n 1 (dg tX4_tell 31 rfl) rfl rfl ?_
          refine WP.callVv (As := []) (st := []) vX4_26 h0.1 rfl rfl ⟨Nat.le_of_ble_eq_true rfl, Nat.le_of_ble_eq_true rfl⟩ (Nat.le_of_ble_eq_true rfl) rfl (dg tX4_tell 32 rfl) h (fun M4 h => ?_)
          obtain ⟨v5, e_v5⟩ : ∃ y : Int32, y = x3 + 1 := ⟨_, rfl⟩
          have h := h v5 e_v5
          refine WP.iinc (v := v5) (L2 := [(3, .int v5), (2, .int v3), (0, .ref x0), (1, .ref x1)]) 3 (dg tX4_tell 33 rfl) rfl (by rw [e_v5]; rfl) (by decide) rfl ?_
          refine WP.goto (tgt := 18) (dg tX4_tell 34 rfl) (by decide) ?_
          refine WP.sub [2, 3, 1, 0] rfl ?_
          exact h
theorem sg_X4_tell_69 {T : Th} {M : Mm} {Q : Int32 → Mm → Prop} {x0 : Nat} {x2 : Int32} (h0 : isX4 T x0)
    (h : ((M.1 x0 6) = 0 → Q x2 M) ∧ (¬ (M.1 x0 6) = 0 → Q ((-10) - (M.1 x0 4)) M)) :
    WP T mX4_tell 69 [(0, .ref x0), (2, .int x2)] [] M (qi Q) := by
  refine WP.aload_n 0 (dg tX4_tell 35 rfl) rfl rfl ?_
  refine WP.getI fX4_22 h0.1 (dg tX4_tell 36 rfl) ?_
  refine WP.if_eq (tgt := 86) (dg tX4_tell 37 rfl) (by decide) (fun z => ?_) (fun z => ?_)
  · replace h := h.1 z
    refine WP.iload_n 1 (dg tX4_tell 43 rfl) rfl rfl ?_
    exact WP.iret rfl (dg tX4_tell 44 rfl) ⟨_, rfl, h⟩
  · replace h := h.2 z
    refine WP.bipush (v := (-10)) (dg tX4_tell 38 rfl) (by decide) ?_
    refine WP.aload_n 0 (dg tX4_tell 39 rfl) rfl rfl ?_
    refine WP.getI fX4_39 h0.1 (dg tX4_tell 40 rfl) ?_
    refine WP.isub (dg tX4_tell 41 rfl) ?_
    refine WP.goto (tgt := 87) (dg tX4_tell 42 rfl) (by decide) ?_
    exact WP.iret rfl (dg tX4_tell 44 rfl) ⟨_, rfl, h⟩
theorem sg_X4_tellItem_0 {T : Th} {M : Mm} {Q : Mm → Prop} {x0 : Nat} {x1 : Nat} {x2 : Int32} (h0 : isX4 T x0) (h1 : isX1 T x1)
    (h : (¬ (M.1 x0 3) = 1 → WP T mX4_tellItem 16 [(0, .ref x0), (1, .ref x1), (2, .int x2)] [.int 0] M (qv Q)) ∧ ((M.1 x0 3) = 1 → WP T mX4_tellItem 16 [(0, .ref x0), (1, .ref x1), (2, .int x2)] [.int (M.1 x0 5)] M (qv Q))) :
    WP T mX4_tellItem 0 [(0, .ref x0), (1, .ref x1), (2, .int x2)] [] M (qv Q) := by
  refine WP.aload_n 0 (dg tX4_tellItem 0 rfl) rfl rfl ?_
  refine WP.getI fX4_29 h0.1 (dg tX4_tellItem 1 rfl) ?_
  refine WP.iconst (v := 1) (dg tX4_tellItem 2 rfl) (by decide) ?_
  refine WP.icmp_ne (tgt := 15) (dg tX4_tellItem 3 rfl) (by decide) (fun z => ?_) (fun z => ?_)
  · replace h := h.1 z
    refine WP.iconst (v := 0) (dg tX4_tellItem 7 rfl) (by decide) ?_
    exact h
  · replace h := h.2 z
    refine WP.aload_n 0 (dg tX4_tellItem 4 rfl) rfl rfl ?_
    refine WP.getI fX4_42 h0.1 (dg tX4_tellItem 5 rfl) ?_
    refine WP.goto (tgt := 16) (dg tX4_tellItem 6 rfl) (by decide) ?_
    exact h
theorem sg_X4_tellItem_16 {T : Th} {M : Mm} {Q : Mm → Prop} {x0 : Nat} {x1 : Nat} {x2 : Int32} {s0 : Int32} (h0 : isX4 T x0) (h1 : isX1 T x1)
    (h : (s0 = 98 → WPv T mX4_tellBridge [.ref x0, .ref x1] M (fun M1 => Q M1)) ∧ (s0 = 99 → WPv T mX4_tellCost [.ref x0, .ref x1] M (fun M1 => Q M1)) ∧ (s0 = 104 → WPv T mX4_tellPair [.ref x0, .ref x1] M (fun M1 => Q M1)) ∧ (s0 = 112 → WPi T mX4_readNumber [.ref x0, .int 0, .int ((M.1 x1 0) - 1)] M (fun v2 M1 => ∀ M3 : Mm, M3 = sI M1 x1 5 ((M.1 x1 5) ||| (1 <<< (v2 &&& 31))) → Q M3)) ∧ (s0 = 114 → WPv T mX4_tellRing [.ref x0, .ref x1, .int x2] M (fun M1 => Q M1)) ∧ (s0 = 115 → WPv T mX4_tellSun [.ref x0, .ref x1] M (fun M1 => Q M1)) ∧ (s0 = 119 → WPv T mX4_tellWagon [.ref x0, .ref x1] M (fun M1 => Q M1)) ∧ (¬ s0 = 98 ∧ ¬ s0 = 99 ∧ ¬ s0 = 104 ∧ ¬ s0 = 112 ∧ ¬ s0 = 114 ∧ ¬ s0 = 115 ∧ ¬ s0 = 119 → ∀ M1 : Mm, M1 = sI M x0 6 1 → Q M1)) :
    WP T mX4_tellItem 16 [(0, .ref x0), (1, .ref x1), (2, .int x2)] [.int s0] M (qv Q) := by
  rcases tabcase s0 98 22 with hq | ⟨k, hk, hq⟩
  · replace h := h.2.2.2.2.2.2.2 ⟨fun e => by rw [e] at hq; revert hq; decide, fun e => by rw [e] at hq; revert hq; decide, fun e => by rw [e] at hq; revert hq; decide, fun e => by rw [e] at hq; revert hq; decide, fun e => by rw [e] at hq; revert hq; decide, fun e => by rw [e] at hq; revert hq; decide, fun e => by rw [e] at hq; revert hq; decide⟩
    refine WP.tabOut (tgt := 194) (dg tX4_tellItem 8 rfl) (by rcases hq with hq | hq <;> omega) (by decide) ?_
    refine WP.aload_n 0 (dg tX4_tellItem 49 rfl) rfl rfl ?_
    refine WP.iconst (v := 1) (dg tX4_tellItem 50 rfl) (by decide) ?_
    refine WP.putZ fX4_22 h0.1 (by decide) (dg tX4_tellItem 51 rfl) (fun M1 e_M1 => ?_)
    have h := h M1 e_M1
    exact WP.vret rfl (dg tX4_tellItem 52 rfl) ⟨rfl, h⟩
  · rcases (show k = 0 ∨ k = 1 ∨ k = 2 ∨ k = 3 ∨ k = 4 ∨ k = 5 ∨ k = 6 ∨ k = 7 ∨ k = 8 ∨ k = 9 ∨ k = 10 ∨ k = 11 ∨ k = 12 ∨ k = 13 ∨ k = 14 ∨ k = 15 ∨ k = 16 ∨ k = 17 ∨ k = 18 ∨ k = 19 ∨ k = 20 ∨ k = 21 by omega) with rfl | rfl | rfl | rfl | rfl | rfl | rfl | rfl | rfl | rfl | rfl | rfl | rfl | rfl | rfl | rfl | rfl | rfl | rfl | rfl | rfl | rfl
    · have he : s0 = 98 := Int32.toInt_inj.mp (by rw [hq]; rfl)
      replace h := h.1 (he)
      refine WP.tabIn (off := 129) (tgt := 145) (dg tX4_tellItem 8 rfl) (by omega) (by omega) (by rw [hq]; rfl) (by decide) ?_
      refine WP.aload_n 0 (dg tX4_tellItem 22 rfl) rfl rfl ?_
      refine WP.aload_n 1 (dg tX4_tellItem 23 rfl) rfl rfl ?_
      refine WP.callVv (As := [.ref x1]) (st := []) vX4_55 h0.1 rfl rfl ⟨Nat.le_of_ble_eq_true rfl, Nat.le_of_ble_eq_true rfl⟩ (Nat.le_of_ble_eq_true rfl) rfl (dg tX4_tellItem 24 rfl) h (fun M1 h => ?_)
      refine WP.goto (tgt := 199) (dg tX4_tellItem 25 rfl) (by decide) ?_
      exact WP.vret rfl (dg tX4_tellItem 52 rfl) ⟨rfl, h⟩
    · have he : s0 = 99 := Int32.toInt_inj.mp (by rw [hq]; rfl)
      replace h := h.2.1 (he)
      refine WP.tabIn (off := 113) (tgt := 129) (dg tX4_tellItem 8 rfl) (by omega) (by omega) (by rw [hq]; rfl) (by decide) ?_
      refine WP.aload_n 0 (dg tX4_tellItem 14 rfl) rfl rfl ?_
      refine WP.aload_n 1 (dg tX4_tellItem 15 rfl) rfl rfl ?_
      refine WP.callVv (As := [.ref x1]) (st := []) vX4_48 h0.1 rfl rfl ⟨Nat.le_of_ble_eq_true rfl, Nat.le_of_ble_eq_true rfl⟩ (Nat.le_of_ble_eq_true rfl) rfl (dg tX4_tellItem 16 rfl) h (fun M1 h => ?_)
      refine WP.goto (tgt := 199) (dg tX4_tellItem 17 rfl) (by decide) ?_
      exact WP.vret rfl (dg tX4_tellItem 52 rfl) ⟨rfl, h⟩
    · have he : s0 = 100 := Int32.toInt_inj.mp (by rw [hq]; rfl)
      replace h := h.2.2.2.2.2.2.2 ⟨fun e => by rw [e] at he; revert he; decide, fun e => by rw [e] at he; revert he; decide, fun e => by rw [e] at he; revert he; decide, fun e => by rw [e] at he; revert he; decide, fun e => by rw [e] at he; revert he; decide, fun e => by rw [e] at he; revert he; decide, fun e => by rw [e] at he; revert he; decide⟩
      refine WP.tabIn (off := 178) (tgt := 194) (dg tX4_tellItem 8 rfl) (by omega) (by omega) (by rw [hq]; rfl) (by decide) ?_
      refine WP.aload_n 0 (dg tX4_tellItem 49 rfl) rfl rfl ?_
      refine WP.iconst (v := 1) (dg tX4_tellItem 50 rfl) (by decide) ?_
      refine WP.putZ fX4_22 h0.1 (by decide) (dg tX4_tellItem 51 rfl) (fun M1 e_M1 => ?_)
      have h := h M1 e_M1
      exact WP.vret rfl (dg tX4_tellItem 52 rfl) ⟨rfl, h⟩
    · have he : s0 = 101 := Int32.toInt_inj.mp (by rw [hq]; rfl)
      replace h := h.2.2.2.2.2.2.2 ⟨fun e => by rw [e] at he; revert he; decide, fun e => by rw [e] at he; revert he; decide, fun e => by rw [e] at he; revert he; decide, fun e => by rw [e] at he; revert he; decide, fun e => by rw [e] at he; revert he; decide, fun e => by rw [e] at he; revert he; decide, fun e => by rw [e] at he; revert he; decide⟩
      refine WP.tabIn (off := 178) (tgt := 194) (dg tX4_tellItem 8 rfl) (by omega) (by omega) (by rw [hq]; rfl) (by decide) ?_
      refine WP.aload_n 0 (dg tX4_tellItem 49 rfl) rfl rfl ?_
      refine WP.iconst (v := 1) (dg tX4_tellItem 50 rfl) (by decide) ?_
      refine WP.putZ fX4_22 h0.1 (by decide) (dg tX4_tellItem 51 rfl) (fun M1 e_M1 => ?_)
      have h := h M1 e_M1
      exact WP.vret rfl (dg tX4_tellItem 52 rfl) ⟨rfl, h⟩
    · have he : s0 = 102 := Int32.toInt_inj.mp (by rw [hq]; rfl)
      replace h := h.2.2.2.2.2.2.2 ⟨fun e => by rw [e] at he; revert he; decide, fun e => by rw [e] at he; revert he; decide, fun e => by rw [e] at he; revert he; decide, fun e => by rw [e] at he; revert he; decide, fun e => by rw [e] at he; revert he; decide, fun e => by rw [e] at he; revert he; decide, fun e => by rw [e] at he; revert he; decide⟩
      refine WP.tabIn (off := 178) (tgt := 194) (dg tX4_tellItem 8 rfl) (by omega) (by omega) (by rw [hq]; rfl) (by decide) ?_
      refine WP.aload_n 0 (dg tX4_tellItem 49 rfl) rfl rfl ?_
      refine WP.iconst (v := 1) (dg tX4_tellItem 50 rfl) (by decide) ?_
      refine WP.putZ fX4_22 h0.1 (by decide) (dg tX4_tellItem 51 rfl) (fun M1 e_M1 => ?_)
      have h := h M1 e_M1
      exact WP.vret rfl (dg tX4_tellItem 52 rfl) ⟨rfl, h⟩
    · have he : s0 = 103 := Int32.toInt_inj.mp (by rw [hq]; rfl)
      replace h := h.2.2.2.2.2.2.2 ⟨fun e => by rw [e] at he; revert he; decide, fun e => by rw [e] at he; revert he; decide, fun e => by rw [e] at he; revert he; decide, fun e => by rw [e] at he; revert he; decide, fun e => by rw [e] at he; revert he; decide, fun e => by rw [e] at he; revert he; decide, fun e => by rw [e] at he; revert he; decide⟩
      refine WP.tabIn (off := 178) (tgt := 194) (dg tX4_tellItem 8 rfl) (by omega) (by omega) (by rw [hq]; rfl) (by decide) ?_
      refine WP.aload_n 0 (dg tX4_tellItem 49 rfl) rfl rfl ?_
      refine WP.iconst (v := 1) (dg tX4_tellItem 50 rfl) (by decide) ?_
      refine WP.putZ fX4_22 h0.1 (by decide) (dg tX4_tellItem 51 rfl) (fun M1 e_M1 => ?_)
      have h := h M1 e_M1
      exact WP.vret rfl (dg tX4_tellItem 52 rfl) ⟨rfl, h⟩
    · have he : s0 = 104 := Int32.toInt_inj.mp (by rw [hq]; rfl)
      replace h := h.2.2.1 (he)
      refine WP.tabIn (off := 170) (tgt := 186) (dg tX4_tellItem 8 rfl) (by omega) (by omega) (by rw [hq]; rfl) (by decide) ?_
      refine WP.aload_n 0 (dg tX4_tellItem 45 rfl) rfl rfl ?_
      refine WP.aload_n 1 (dg tX4_tellItem 46 rfl) rfl rfl ?_
      refine WP.callVv (As := [.ref x1]) (st := []) vX4_73 h0.1 rfl rfl ⟨Nat.le_of_ble_eq_true rfl, Nat.le_of_ble_eq_true rfl⟩ (Nat.le_of_ble_eq_true rfl) rfl (dg tX4_tellItem 47 rfl) h (fun M1 h => ?_)
      refine WP.goto (tgt := 199) (dg tX4_tellItem 48 rfl) (by decide) ?_
      exact WP.vret rfl (dg tX4_tellItem 52 rfl) ⟨rfl, h⟩
    · have he : s0 = 105 := Int32.toInt_inj.mp (by rw [hq]; rfl)
      replace h := h.2.2.2.2.2.2.2 ⟨fun e => by rw [e] at he; revert he; decide, fun e => by rw [e] at he; revert he; decide, fun e => by rw [e] at he; revert he; decide, fun e => by rw [e] at he; revert he; decide, fun e => by rw [e] at he; revert he; decide, fun e => by rw [e] at he; revert he; decide, fun e => by rw [e] at he; revert he; decide⟩
      refine WP.tabIn (off := 178) (tgt := 194) (dg tX4_tellItem 8 rfl) (by omega) (by omega) (by rw [hq]; rfl) (by decide) ?_
      refine WP.aload_n 0 (dg tX4_tellItem 49 rfl) rfl rfl ?_
      refine WP.iconst (v := 1) (dg tX4_tellItem 50 rfl) (by decide) ?_
      refine WP.putZ fX4_22 h0.1 (by decide) (dg tX4_tellItem 51 rfl) (fun M1 e_M1 => ?_)
      have h := h M1 e_M1
      exact WP.vret rfl (dg tX4_tellItem 52 rfl) ⟨rfl, h⟩
    · have he : s0 = 106 := Int32.toInt_inj.mp (by rw [hq]; rfl)
      replace h := h.2.2.2.2.2.2.2 ⟨fun e => by rw [e] at he; revert he; decide, fun e => by rw [e] at he; revert he; decide, fun e => by rw [e] at he; revert he; decide, fun e => by rw [e] at he; revert he; decide, fun e => by rw [e] at he; revert he; decide, fun e => by rw [e] at he; revert he; decide, fun e => by rw [e] at he; revert he; decide⟩
      refine WP.tabIn (off := 178) (tgt := 194) (dg tX4_tellItem 8 rfl) (by omega) (by omega) (by rw [hq]; rfl) (by decide) ?_
      refine WP.aload_n 0 (dg tX4_tellItem 49 rfl) rfl rfl ?_
      refine WP.iconst (v := 1) (dg tX4_tellItem 50 rfl) (by decide) ?_
      refine WP.putZ fX4_22 h0.1 (by decide) (dg tX4_tellItem 51 rfl) (fun M1 e_M1 => ?_)
      have h := h M1 e_M1
      exact WP.vret rfl (dg tX4_tellItem 52 rfl) ⟨rfl, h⟩
    · have he : s0 = 107 := Int32.toInt_inj.mp (by rw [hq]; rfl)
      replace h := h.2.2.2.2.2.2.2 ⟨fun e => by rw [e] at he; revert he; decide, fun e => by rw [e] at he; revert he; decide, fun e => by rw [e] at he; revert he; decide, fun e => by rw [e] at he; revert he; decide, fun e => by rw [e] at he; revert he; decide, fun e => by rw [e] at he; revert he; decide, fun e => by rw [e] at he; revert he; decide⟩
      refine WP.tabIn (off := 178) (tgt := 194) (dg tX4_tellItem 8 rfl) (by omega) (by omega) (by rw [hq]; rfl) (by decide) ?_
      refine WP.aload_n 0 (dg tX4_tellItem 49 rfl) rfl rfl ?_
      refine WP.iconst (v := 1) (dg tX4_tellItem 50 rfl) (by decide) ?_
      refine WP.putZ fX4_22 h0.1 (by decide) (dg tX4_tellItem 51 rfl) (fun M1 e_M1 => ?_)
      have h := h M1 e_M1
      exact WP.vret rfl (dg tX4_tellItem 52 rfl) ⟨rfl, h⟩
    · have he : s0 = 108 := Int32.toInt_inj.mp (by rw [hq]; rfl)
      replace h := h.2.2.2.2.2.2.2 ⟨fun e => by rw [e] at he; revert he; decide, fun e => by rw [e] at he; revert he; decide, fun e => by rw [e] at he; revert he; decide, fun e => by rw [e] at he; revert he; decide, fun e => by rw [e] at he; revert he; decide, fun e => by rw [e] at he; revert he; decide, fun e => by rw [e] at he; revert he; decide⟩
      refine WP.tabIn (off := 178) (tgt := 194) (dg tX4_tellItem 8 rfl) (by omega) (by omega) (by rw [hq]; rfl) (by decide) ?_
      refine WP.aload_n 0 (dg tX4_tellItem 49 rfl) rfl rfl ?_
      refine WP.iconst (v := 1) (dg tX4_tellItem 50 rfl) (by decide) ?_
      refine WP.putZ fX4_22 h0.1 (by decide) (dg tX4_tellItem 51 rfl) (fun M1 e_M1 => ?_)
      have h := h M1 e_M1
      exact WP.vret rfl (dg tX4_tellItem 52 rfl) ⟨rfl, h⟩
    · have he : s0 = 109 := Int32.toInt_inj.mp (by rw [hq]; rfl)
      replace h := h.2.2.2.2.2.2.2 ⟨fun e => by rw [e] at he; revert he; decide, fun e => by rw [e] at he; revert he; decide, fun e => by rw [e] at he; revert he; decide, fun e => by rw [e] at he; revert he; decide, fun e => by rw [e] at he; revert he; decide, fun e => by rw [e] at he; revert he; decide, fun e => by rw [e] at he; revert he; decide⟩
      refine WP.tabIn (off := 178) (tgt := 194) (dg tX4_tellItem 8 rfl) (by omega) (by omega) (by rw [hq]; rfl) (by decide) ?_
      refine WP.aload_n 0 (dg tX4_tellItem 49 rfl) rfl rfl ?_
      refine WP.iconst (v := 1) (dg tX4_tellItem 50 rfl) (by decide) ?_
      refine WP.putZ fX4_22 h0.1 (by decide) (dg tX4_tellItem 51 rfl) (fun M1 e_M1 => ?_)
      have h := h M1 e_M1
      exact WP.vret rfl (dg tX4_tellItem 52 rfl) ⟨rfl, h⟩
    · have he : s0 = 110 := Int32.toInt_inj.mp (by rw [hq]; rfl)
      replace h := h.2.2.2.2.2.2.2 ⟨fun e => by rw [e] at he; revert he; decide, fun e => by rw [e] at he; revert he; decide, fun e => by rw [e] at he; revert he; decide, fun e => by rw [e] at he; revert he; decide, fun e => by rw [e] at he; revert he; decide, fun e => by rw [e] at he; revert he; decide, fun e => by rw [e] at he; revert he; decide⟩
      refine WP.tabIn (off := 178) (tgt := 194) (dg tX4_tellItem 8 rfl) (by omega) (by omega) (by rw [hq]; rfl) (by decide) ?_
      refine WP.aload_n 0 (dg tX4_tellItem 49 rfl) rfl rfl ?_
      refine WP.iconst (v := 1) (dg tX4_tellItem 50 rfl) (by decide) ?_
      refine WP.putZ fX4_22 h0.1 (by decide) (dg tX4_tellItem 51 rfl) (fun M1 e_M1 => ?_)
      have h := h M1 e_M1
      exact WP.vret rfl (dg tX4_tellItem 52 rfl) ⟨rfl, h⟩
    · have he : s0 = 111 := Int32.toInt_inj.mp (by rw [hq]; rfl)
      replace h := h.2.2.2.2.2.2.2 ⟨fun e => by rw [e] at he; revert he; decide, fun e => by rw [e] at he; revert he; decide, fun e => by rw [e] at he; revert he; decide, fun e => by rw [e] at he; revert he; decide, fun e => by rw [e] at he; revert he; decide, fun e => by rw [e] at he; revert he; decide, fun e => by rw [e] at he; revert he; decide⟩
      refine WP.tabIn (off := 178) (tgt := 194) (dg tX4_tellItem 8 rfl) (by omega) (by omega) (by rw [hq]; rfl) (by decide) ?_
      refine WP.aload_n 0 (dg tX4_tellItem 49 rfl) rfl rfl ?_
      refine WP.iconst (v := 1) (dg tX4_tellItem 50 rfl) (by decide) ?_
      refine WP.putZ fX4_22 h0.1 (by decide) (dg tX4_tellItem 51 rfl) (fun M1 e_M1 => ?_)
      have h := h M1 e_M1
      exact WP.vret rfl (dg tX4_tellItem 52 rfl) ⟨rfl, h⟩
    · have he : s0 = 112 := Int32.toInt_inj.mp (by rw [hq]; rfl)
      replace h := h.2.2.2.1 (he)
      refine WP.tabIn (off := 137) (tgt := 153) (dg tX4_tellItem 8 rfl) (by omega) (by omega) (by rw [hq]; rfl) (by decide) ?_
      refine WP.aload_n 1 (dg tX4_tellItem 26 rfl) rfl rfl ?_
      refine WP.dup (dg tX4_tellItem 27 rfl) rfl ?_
      refine WP.getI fX4_58 h1.1 (dg tX4_tellItem 28 rfl) ?_
      refine WP.iconst (v := 1) (dg tX4_tellItem 29 rfl) (by decide) ?_
      refine WP.aload_n 0 (dg tX4_tellItem 30 rfl) rfl rfl ?_
      refine WP.iconst (v := 0) (dg tX4_tellItem 31 rfl) (by decide) ?_
      refine WP.aload_n 1 (dg tX4_tellItem 32 rfl) rfl rfl ?_
      refine WP.getI fX4_63 h1.1 (dg tX4_tellItem 33 rfl) ?_
      refine WP.iconst (v := 1) (dg tX4_tellItem 34 rfl) (by decide) ?_
      refine WP.isub (dg tX4_tellItem 35 rfl) ?_
      refine WP.callVi (As := [.int 0, .int ((M.1 x1 0) - 1)]) (st := [.int 1, .int (M.1 x1 5), .ref x1]) vX4_66 h0.1 rfl rfl ⟨Nat.le_of_ble_eq_true rfl, Nat.le_of_ble_eq_true rfl⟩ (Nat.le_of_ble_eq_true rfl) rfl (dg tX4_tellItem 36 rfl) h (fun v2 M1 h => ?_)
      refine WP.ishl (dg tX4_tellItem 37 rfl) ?_
      refine WP.ior (dg tX4_tellItem 38 rfl) ?_
      refine WP.putI fX4_58 h1.1 (dg tX4_tellItem 39 rfl) (fun M3 e_M3 => ?_)
      have h := h M3 e_M3
      refine WP.goto (tgt := 199) (dg tX4_tellItem 40 rfl) (by decide) ?_
      exact WP.vret rfl (dg tX4_tellItem 52 rfl) ⟨rfl, h⟩
    · have he : s0 = 113 := Int32.toInt_inj.mp (by rw [hq]; rfl)
      replace h := h.2.2.2.2.2.2.2 ⟨fun e => by rw [e] at he; revert he; decide, fun e => by rw [e] at he; revert he; decide, fun e => by rw [e] at he; revert he; decide, fun e => by rw [e] at he; revert he; decide, fun e => by rw [e] at he; revert he; decide, fun e => by rw [e] at he; revert he; decide, fun e => by rw [e] at he; revert he; decide⟩
      refine WP.tabIn (off := 178) (tgt := 194) (dg tX4_tellItem 8 rfl) (by omega) (by omega) (by rw [hq]; rfl) (by decide) ?_
      refine WP.aload_n 0 (dg tX4_tellItem 49 rfl) rfl rfl ?_
      refine WP.iconst (v := 1) (dg tX4_tellItem 50 rfl) (by decide) ?_
      refine WP.putZ fX4_22 h0.1 (by decide) (dg tX4_tellItem 51 rfl) (fun M1 e_M1 => ?_)
      have h := h M1 e_M1
      exact WP.vret rfl (dg tX4_tellItem 52 rfl) ⟨rfl, h⟩
    · have he : s0 = 114 := Int32.toInt_inj.mp (by rw [hq]; rfl)
      replace h := h.2.2.2.2.1 (he)
      refine WP.tabIn (off := 104) (tgt := 120) (dg tX4_tellItem 8 rfl) (by omega) (by omega) (by rw [hq]; rfl) (by decide) ?_
      refine WP.aload_n 0 (dg tX4_tellItem 9 rfl) rfl rfl ?_
      refine WP.aload_n 1 (dg tX4_tellItem 10 rfl) rfl rfl ?_
      refine WP.iload_n 2 (dg tX4_tellItem 11 rfl) rfl rfl ?_
      refine WP.callVv (As := [.ref x1, .int x2]) (st := []) vX4_45 h0.1 rfl rfl ⟨Nat.le_of_ble_eq_true rfl, Nat.le_of_ble_eq_true rfl⟩ (Nat.le_of_ble_eq_true rfl) rfl (dg tX4_tellItem 12 rfl) h (fun M1 h => ?_)
      refine WP.goto (tgt := 199) (dg tX4_tellItem 13 rfl) (by decide) ?_
      exact WP.vret rfl (dg tX4_tellItem 52 rfl) ⟨rfl, h⟩
    · have he : s0 = 115 := Int32.toInt_inj.mp (by rw [hq]; rfl)
      replace h := h.2.2.2.2.2.1 (he)
      refine WP.tabIn (off := 121) (tgt := 137) (dg tX4_tellItem 8 rfl) (by omega) (by omega) (by rw [hq]; rfl) (by decide) ?_
      refine WP.aload_n 0 (dg tX4_tellItem 18 rfl) rfl rfl ?_
      refine WP.aload_n 1 (dg tX4_tellItem 19 rfl) rfl rfl ?_
      refine WP.callVv (As := [.ref x1]) (st := []) vX4_52 h0.1 rfl rfl ⟨Nat.le_of_ble_eq_true rfl, Nat.le_of_ble_eq_true rfl⟩ (Nat.le_of_ble_eq_true rfl) rfl (dg tX4_tellItem 20 rfl) h (fun M1 h => ?_)
      refine WP.goto (tgt := 199) (dg tX4_tellItem 21 rfl) (by decide) ?_
      exact WP.vret rfl (dg tX4_tellItem 52 rfl) ⟨rfl, h⟩
    · have he : s0 = 116 := Int32.toInt_inj.mp (by rw [hq]; rfl)
      replace h := h.2.2.2.2.2.2.2 ⟨fun e => by rw [e] at he; revert he; decide, fun e => by rw [e] at he; revert he; decide, fun e => by rw [e] at he; revert he; decide, fun e => by rw [e] at he; revert he; decide, fun e => by rw [e] at he; revert he; decide, fun e => by rw [e] at he; revert he; decide, fun e => by rw [e] at he; revert he; decide⟩
      refine WP.tabIn (off := 178) (tgt := 194) (dg tX4_tellItem 8 rfl) (by omega) (by omega) (by rw [hq]; rfl) (by decide) ?_
      refine WP.aload_n 0 (dg tX4_tellItem 49 rfl) rfl rfl ?_
      refine WP.iconst (v := 1) (dg tX4_tellItem 50 rfl) (by decide) ?_
      refine WP.putZ fX4_22 h0.1 (by decide) (dg tX4_tellItem 51 rfl) (fun M1 e_M1 => ?_)
      have h := h M1 e_M1
      exact WP.vret rfl (dg tX4_tellItem 52 rfl) ⟨rfl, h⟩
    · have he : s0 = 117 := Int32.toInt_inj.mp (by rw [hq]; rfl)
      replace h := h.2.2.2.2.2.2.2 ⟨fun e => by rw [e] at he; revert he; decide, fun e => by rw [e] at he; revert he; decide, fun e => by rw [e] at he; revert he; decide, fun e => by rw [e] at he; revert he; decide, fun e => by rw [e] at he; revert he; decide, fun e => by rw [e] at he; revert he; decide, fun e => by rw [e] at he; revert he; decide⟩
      refine WP.tabIn (off := 178) (tgt := 194) (dg tX4_tellItem 8 rfl) (by omega) (by omega) (by rw [hq]; rfl) (by decide) ?_
      refine WP.aload_n 0 (dg tX4_tellItem 49 rfl) rfl rfl ?_
      refine WP.iconst (v := 1) (dg tX4_tellItem 50 rfl) (by decide) ?_
      refine WP.putZ fX4_22 h0.1 (by decide) (dg tX4_tellItem 51 rfl) (fun M1 e_M1 => ?_)
      have h := h M1 e_M1
      exact WP.vret rfl (dg tX4_tellItem 52 rfl) ⟨rfl, h⟩
    · have he : s0 = 118 := Int32.toInt_inj.mp (by rw [hq]; rfl)
      replace h := h.2.2.2.2.2.2.2 ⟨fun e => by rw [e] at he; revert he; decide, fun e => by rw [e] at he; revert he; decide, fun e => by rw [e] at he; revert he; decide, fun e => by rw [e] at he; revert he; decide, fun e => by rw [e] at he; revert he; decide, fun e => by rw [e] at he; revert he; decide, fun e => by rw [e] at he; revert he; decide⟩
      refine WP.tabIn (off := 178) (tgt := 194) (dg tX4_tellItem 8 rfl) (by omega) (by omega) (by rw [hq]; rfl) (by decide) ?_
      refine WP.aload_n 0 (dg tX4_tellItem 49 rfl) rfl rfl ?_
      refine WP.iconst (v := 1) (dg tX4_tellItem 50 rfl) (by decide) ?_
      refine WP.putZ fX4_22 h0.1 (by decide) (dg tX4_tellItem 51 rfl) (fun M1 e_M1 => ?_)
      have h := h M1 e_M1
      exact WP.vret rfl (dg tX4_tellItem 52 rfl) ⟨rfl, h⟩
    · have he : s0 = 119 := Int32.toInt_inj.mp (by rw [hq]; rfl)
      replace h := h.2.2.2.2.2.2.1 (he)
      refine WP.tabIn (off := 162) (tgt := 178) (dg tX4_tellItem 8 rfl) (by omega) (by omega) (by rw [hq]; rfl) (by decide) ?_
      refine WP.aload_n 0 (dg tX4_tellItem 41 rfl) rfl rfl ?_
      refine WP.aload_n 1 (dg tX4_tellItem 42 rfl) rfl rfl ?_
      refine WP.callVv (As := [.ref x1]) (st := []) vX4_70 h0.1 rfl rfl ⟨Nat.le_of_ble_eq_true rfl, Nat.le_of_ble_eq_true rfl⟩ (Nat.le_of_ble_eq_true rfl) rfl (dg tX4_tellItem 43 rfl) h (fun M1 h => ?_)
      refine WP.goto (tgt := 199) (dg tX4_tellItem 44 rfl) (by decide) ?_
      exact WP.vret rfl (dg tX4_tellItem 52 rfl) ⟨rfl, h⟩
theorem sg_X4_tellRing_0 {T : Th} {M : Mm} {Q : Mm → Prop} {x0 : Nat} {x1 : Nat} {x2 : Int32} (h0 : isX4 T x0) (h1 : isX1 T x1)
    (h : (x2 ≤ 0 → ∀ M1 : Mm, M1 = sI M x0 6 0 → WPi T mX4_readNumber [.ref x0, .int 4, .int 12] M1 (fun v3 M2 => ∀ M4 : Mm, M4 = sI M2 x1 0 v3 → Q M4)) ∧ (¬ x2 ≤ 0 → ∀ M1 : Mm, M1 = sI M x0 6 1 → WPi T mX4_readNumber [.ref x0, .int 4, .int 12] M1 (fun v3 M2 => ∀ M4 : Mm, M4 = sI M2 x1 0 v3 → Q M4))) :
    WP T mX4_tellRing 0 [(0, .ref x0), (1, .ref x1), (2, .int x2)] [] M (qv Q) := by
  refine WP.aload_n 0 (dg tX4_tellRing 0 rfl) rfl rfl ?_
  refine WP.iload_n 2 (dg tX4_tellRing 1 rfl) rfl rfl ?_
  refine WP.if_le (tgt := 9) (dg tX4_tellRing 2 rfl) (by decide) (fun z => ?_) (fun z => ?_)
  · replace h := h.1 z
    refine WP.iconst (v := 0) (dg tX4_tellRing 5 rfl) (by decide) ?_
    refine WP.putZ fX4_22 h0.1 (by decide) (dg tX4_tellRing 6 rfl) (fun M1 e_M1 => ?_)
    have h := h M1 e_M1
    refine WP.aload_n 1 (dg tX4_tellRing 7 rfl) rfl rfl ?_
    refine WP.aload_n 0 (dg tX4_tellRing 8 rfl) rfl rfl ?_
    refine WP.iconst (v := 4) (dg tX4_tellRing 9 rfl) (by decide) ?_
    refine WP.bipush (v := 12) (dg tX4_tellRing 10 rfl) (by decide) ?_
    refine WP.callVi (As := [.int 4, .int 12]) (st := [.ref x1]) vX4_66 h0.1 rfl rfl ⟨Nat.le_of_ble_eq_true rfl, Nat.le_of_ble_eq_true rfl⟩ (Nat.le_of_ble_eq_true rfl) rfl (dg tX4_tellRing 11 rfl) h (fun v3 M2 h => ?_)
    refine WP.putI fX4_63 h1.1 (dg tX4_tellRing 12 rfl) (fun M4 e_M4 => ?_)
    have h := h M4 e_M4
    exact WP.vret rfl (dg tX4_tellRing 13 rfl) ⟨rfl, h⟩
  · replace h := h.2 z
    refine WP.iconst (v := 1) (dg tX4_tellRing 3 rfl) (by decide) ?_
    refine WP.goto (tgt := 10) (dg tX4_tellRing 4 rfl) (by decide) ?_
    refine WP.putZ fX4_22 h0.1 (by decide) (dg tX4_tellRing 6 rfl) (fun M1 e_M1 => ?_)
    have h := h M1 e_M1
    refine WP.aload_n 1 (dg tX4_tellRing 7 rfl) rfl rfl ?_
    refine WP.aload_n 0 (dg tX4_tellRing 8 rfl) rfl rfl ?_
    refine WP.iconst (v := 4) (dg tX4_tellRing 9 rfl) (by decide) ?_
    refine WP.bipush (v := 12) (dg tX4_tellRing 10 rfl) (by decide) ?_
    refine WP.callVi (As := [.int 4, .int 12]) (st := [.ref x1]) vX4_66 h0.1 rfl rfl ⟨Nat.le_of_ble_eq_true rfl, Nat.le_of_ble_eq_true rfl⟩ (Nat.le_of_ble_eq_true rfl) rfl (dg tX4_tellRing 11 rfl) h (fun v3 M2 h => ?_)
    refine WP.putI fX4_63 h1.1 (dg tX4_tellRing 12 rfl) (fun M4 e_M4 => ?_)
    have h := h M4 e_M4
    exact WP.vret rfl (dg tX4_tellRing 13 rfl) ⟨rfl, h⟩
theorem sg_X4_tellCost_0 {T : Th} {M : Mm} {Q : Mm → Prop} {x0 : Nat} {x1 : Nat} (h0 : isX4 T x0) (h1 : isX1 T x1)
    (h : WPi T mX4_readNumber [.ref x0, .int 0, .int ((M.1 x1 0) - 1)] M (fun v2 M1 => WPi T mX4_readNumber [.ref x0, .int 1, .int 4] M1 (fun v4 M3 => WPi T mX1_hasPlace [.ref x1, .int v2] M3 (fun v6 M5 => (v6 = 0 → Q M5) ∧ (¬ v6 = 0 → vp_in v2 12 ∧ (∀ M7 : Mm, M7 = sI M5 (x1 + 1) v2.toNatClampNeg v4 → Q M7)))))) :
    WP T mX4_tellCost 0 [(0, .ref x0), (1, .ref x1)] [] M (qv Q) := by
  refine WP.aload_n 0 (dg tX4_tellCost 0 rfl) rfl rfl ?_
  refine WP.iconst (v := 0) (dg tX4_tellCost 1 rfl) (by decide) ?_
  refine WP.aload_n 1 (dg tX4_tellCost 2 rfl) rfl rfl ?_
  refine WP.getI fX4_63 h1.1 (dg tX4_tellCost 3 rfl) ?_
  refine WP.iconst (v := 1) (dg tX4_tellCost 4 rfl) (by decide) ?_
  refine WP.isub (dg tX4_tellCost 5 rfl) ?_
  refine WP.callVi (As := [.int 0, .int ((M.1 x1 0) - 1)]) (st := []) vX4_66 h0.1 rfl rfl ⟨Nat.le_of_ble_eq_true rfl, Nat.le_of_ble_eq_true rfl⟩ (Nat.le_of_ble_eq_true rfl) rfl (dg tX4_tellCost 6 rfl) h (fun v2 M1 h => ?_)
  refine WP.istore_n (L2 := [(2, .int v2), (0, .ref x0), (1, .ref x1)]) (dg tX4_tellCost 7 rfl) rfl (by decide) rfl ?_
  refine WP.aload_n 1 (dg tX4_tellCost 8 rfl) rfl rfl ?_
  refine WP.iconst (v := 1) (dg tX4_tellCost 9 rfl) (by decide) ?_
  refine WP.iconst (v := 4) (dg tX4_tellCost 10 rfl) (by decide) ?_
  refine WP.callVi (As := [.int 1, .int 4]) (st := []) vX4_66 h0.1 rfl rfl ⟨Nat.le_of_ble_eq_true rfl, Nat.le_of_ble_eq_true rfl⟩ (Nat.le_of_ble_eq_true rfl) rfl (dg tX4_tellCost 11 rfl) h (fun v4 M3 h => ?_)
  refine WP.istore_n (L2 := [(3, .int v4), (2, .int v2), (0, .ref x0), (1, .ref x1)]) (dg tX4_tellCost 12 rfl) rfl (by decide) rfl ?_
  refine WP.aload_n 3 (dg tX4_tellCost 13 rfl) rfl rfl ?_
  refine WP.iload_n 1 (dg tX4_tellCost 14 rfl) rfl rfl ?_
  refine WP.callVi (As := [.int v2]) (st := []) vX4_76 h1.1 rfl rfl ⟨Nat.le_of_ble_eq_true rfl, Nat.le_of_ble_eq_true rfl⟩ (Nat.le_of_ble_eq_true rfl) rfl (dg tX4_tellCost 15 rfl) h (fun v6 M5 h => ?_)
  refine WP.if_eq (tgt := 34) (dg tX4_tellCost 16 rfl) (by decide) (fun z => ?_) (fun z => ?_)
  · replace h := h.1 z
    exact WP.vret rfl (dg tX4_tellCost 22 rfl) ⟨rfl, h⟩
  · replace h := h.2 z
    refine WP.aload_n 3 (dg tX4_tellCost 17 rfl) rfl rfl ?_
    refine WP.getF fX4_80 h1.1 (dg tX4_tellCost 18 rfl) ?_
    refine WP.iload_n 1 (dg tX4_tellCost 19 rfl) rfl rfl ?_
    refine WP.iload_n 0 (dg tX4_tellCost 20 rfl) rfl rfl ?_
    obtain ⟨hb33, h⟩ := h
    refine WP.iast h1.2.1 hb33 (dg tX4_tellCost 21 rfl) (fun M7 e_M7 => ?_)
    have h := h M7 e_M7
    exact WP.vret rfl (dg tX4_tellCost 22 rfl) ⟨rfl, h⟩
theorem sg_X4_tellSun_0 {T : Th} {M : Mm} {Q : Mm → Prop} {x0 : Nat} {x1 : Nat} (h0 : isX4 T x0) (h1 : isX1 T x1)
    (h : ((M.1 x1 3) = 0 ∨ (M.1 x1 3) = 1) ∧ (∀ M1 : Mm, M1 = sI M x0 6 (M.1 x1 3) → ∀ M2 : Mm, M2 = sI M1 x1 3 1 → WPi T mX4_readNumber [.ref x0, .int 1, .int 9] M2 (fun v4 M3 => ∀ M5 : Mm, M5 = sI M3 x1 1 v4 → WPi T mX4_readNumber [.ref x0, .int 1, .int 20] M5 (fun v7 M6 => ∀ M8 : Mm, M8 = sI M6 x1 2 v7 → Q M8)))) :
    WP T mX4_tellSun 0 [(0, .ref x0), (1, .ref x1)] [] M (qv Q) := by
  refine WP.aload_n 0 (dg tX4_tellSun 0 rfl) rfl rfl ?_
  refine WP.aload_n 1 (dg tX4_tellSun 1 rfl) rfl rfl ?_
  refine WP.getI fX4_83 h1.1 (dg tX4_tellSun 2 rfl) ?_
  obtain ⟨hb5, h⟩ := h
  refine WP.putZ fX4_22 h0.1 hb5 (dg tX4_tellSun 3 rfl) (fun M1 e_M1 => ?_)
  have h := h M1 e_M1
  refine WP.aload_n 1 (dg tX4_tellSun 4 rfl) rfl rfl ?_
  refine WP.iconst (v := 1) (dg tX4_tellSun 5 rfl) (by decide) ?_
  refine WP.putZ fX4_83 h1.1 (by decide) (dg tX4_tellSun 6 rfl) (fun M2 e_M2 => ?_)
  have h := h M2 e_M2
  refine WP.aload_n 1 (dg tX4_tellSun 7 rfl) rfl rfl ?_
  refine WP.aload_n 0 (dg tX4_tellSun 8 rfl) rfl rfl ?_
  refine WP.iconst (v := 1) (dg tX4_tellSun 9 rfl) (by decide) ?_
  refine WP.bipush (v := 9) (dg tX4_tellSun 10 rfl) (by decide) ?_
  refine WP.callVi (As := [.int 1, .int 9]) (st := [.ref x1]) vX4_66 h0.1 rfl rfl ⟨Nat.le_of_ble_eq_true rfl, Nat.le_of_ble_eq_true rfl⟩ (Nat.le_of_ble_eq_true rfl) rfl (dg tX4_tellSun 11 rfl) h (fun v4 M3 h => ?_)
  refine WP.putI fX4_86 h1.1 (dg tX4_tellSun 12 rfl) (fun M5 e_M5 => ?_)
  have h := h M5 e_M5
  refine WP.aload_n 1 (dg tX4_tellSun 13 rfl) rfl rfl ?_
  refine WP.aload_n 0 (dg tX4_tellSun 14 rfl) rfl rfl ?_
  refine WP.iconst (v := 1) (dg tX4_tellSun 15 rfl) (by decide) ?_
  refine WP.bipush (v := 20) (dg tX4_tellSun 16 rfl) (by decide) ?_
  refine WP.callVi (As := [.int 1, .int 20]) (st := [.ref x1]) vX4_66 h0.1 rfl rfl ⟨Nat.le_of_ble_eq_true rfl, Nat.le_of_ble_eq_true rfl⟩ (Nat.le_of_ble_eq_true rfl) rfl (dg tX4_tellSun 17 rfl) h (fun v7 M6 h => ?_)
  refine WP.putI fX4_89 h1.1 (dg tX4_tellSun 18 rfl) (fun M8 e_M8 => ?_)
  have h := h M8 e_M8
  exact WP.vret rfl (dg tX4_tellSun 19 rfl) ⟨rfl, h⟩
theorem sg_X4_tellBridge_0 {T : Th} {M : Mm} {Q : Mm → Prop} {x0 : Nat} {x1 : Nat} (h0 : isX4 T x0) (h1 : isX1 T x1)
    (h : ((M.1 x1 4) = (-9) → ∀ M1 : Mm, M1 = sI M x0 6 0 → WPi T mX4_readNumber [.ref x0, .int 0, .int ((M1.1 x1 0) - 1)] M1 (fun v3 M2 => ∀ M4 : Mm, M4 = sI M2 x1 4 v3 → Q M4)) ∧ (¬ (M.1 x1 4) = (-9) → ∀ M1 : Mm, M1 = sI M x0 6 1 → WPi T mX4_readNumber [.ref x0, .int 0, .int ((M1.1 x1 0) - 1)] M1 (fun v3 M2 => ∀ M4 : Mm, M4 = sI M2 x1 4 v3 → Q M4))) :
    WP T mX4_tellBridge 0 [(0, .ref x0), (1, .ref x1)] [] M (qv Q) := by
  refine WP.aload_n 0 (dg tX4_tellBridge 0 rfl) rfl rfl ?_
  refine WP.aload_n 1 (dg tX4_tellBridge 1 rfl) rfl rfl ?_
  refine WP.getI fX4_92 h1.1 (dg tX4_tellBridge 2 rfl) ?_
  refine WP.bipush (v := (-9)) (dg tX4_tellBridge 3 rfl) (by decide) ?_
  refine WP.icmp_eq (tgt := 14) (dg tX4_tellBridge 4 rfl) (by decide) (fun z => ?_) (fun z => ?_)
  · replace h := h.1 z
    refine WP.iconst (v := 0) (dg tX4_tellBridge 7 rfl) (by decide) ?_
    refine WP.putZ fX4_22 h0.1 (by decide) (dg tX4_tellBridge 8 rfl) (fun M1 e_M1 => ?_)
    have h := h M1 e_M1
    refine WP.aload_n 1 (dg tX4_tellBridge 9 rfl) rfl rfl ?_
    refine WP.aload_n 0 (dg tX4_tellBridge 10 rfl) rfl rfl ?_
    refine WP.iconst (v := 0) (dg tX4_tellBridge 11 rfl) (by decide) ?_
    refine WP.aload_n 1 (dg tX4_tellBridge 12 rfl) rfl rfl ?_
    refine WP.getI fX4_63 h1.1 (dg tX4_tellBridge 13 rfl) ?_
    refine WP.iconst (v := 1) (dg tX4_tellBridge 14 rfl) (by decide) ?_
    refine WP.isub (dg tX4_tellBridge 15 rfl) ?_
    refine WP.callVi (As := [.int 0, .int ((M1.1 x1 0) - 1)]) (st := [.ref x1]) vX4_66 h0.1 rfl rfl ⟨Nat.le_of_ble_eq_true rfl, Nat.le_of_ble_eq_true rfl⟩ (Nat.le_of_ble_eq_true rfl) rfl (dg tX4_tellBridge 16 rfl) h (fun v3 M2 h => ?_)
    refine WP.putI fX4_92 h1.1 (dg tX4_tellBridge 17 rfl) (fun M4 e_M4 => ?_)
    have h := h M4 e_M4
    exact WP.vret rfl (dg tX4_tellBridge 18 rfl) ⟨rfl, h⟩
  · replace h := h.2 z
    refine WP.iconst (v := 1) (dg tX4_tellBridge 5 rfl) (by decide) ?_
    refine WP.goto (tgt := 15) (dg tX4_tellBridge 6 rfl) (by decide) ?_
    refine WP.putZ fX4_22 h0.1 (by decide) (dg tX4_tellBridge 8 rfl) (fun M1 e_M1 => ?_)
    have h := h M1 e_M1
    refine WP.aload_n 1 (dg tX4_tellBridge 9 rfl) rfl rfl ?_
    refine WP.aload_n 0 (dg tX4_tellBridge 10 rfl) rfl rfl ?_
    refine WP.iconst (v := 0) (dg tX4_tellBridge 11 rfl) (by decide) ?_
    refine WP.aload_n 1 (dg tX4_tellBridge 12 rfl) rfl rfl ?_
    refine WP.getI fX4_63 h1.1 (dg tX4_tellBridge 13 rfl) ?_
    refine WP.iconst (v := 1) (dg tX4_tellBridge 14 rfl) (by decide) ?_
    refine WP.isub (dg tX4_tellBridge 15 rfl) ?_
    refine WP.callVi (As := [.int 0, .int ((M1.1 x1 0) - 1)]) (st := [.ref x1]) vX4_66 h0.1 rfl rfl ⟨Nat.le_of_ble_eq_true rfl, Nat.le_of_ble_eq_true rfl⟩ (Nat.le_of_ble_eq_true rfl) rfl (dg tX4_tellBridge 16 rfl) h (fun v3 M2 h => ?_)
    refine WP.putI fX4_92 h1.1 (dg tX4_tellBridge 17 rfl) (fun M4 e_M4 => ?_)
    have h := h M4 e_M4
    exact WP.vret rfl (dg tX4_tellBridge 18 rfl) ⟨rfl, h⟩
theorem sg_X4_tellWagon_0 {T : Th} {M : Mm} {Q : Mm → Prop} {x0 : Nat} {x1 : Nat} (h0 : isX4 T x0) (h1 : isX1 T x1)
    (h : ((M.1 x1 6) < 5 → WP T mX4_tellWagon 14 [(0, .ref x0), (1, .ref x1)] [.int 0, .ref x0] M (qv Q)) ∧ (¬ (M.1 x1 6) < 5 → WP T mX4_tellWagon 14 [(0, .ref x0), (1, .ref x1)] [.int 1, .ref x0] M (qv Q))) :
    WP T mX4_tellWagon 0 [(0, .ref x0), (1, .ref x1)] [] M (qv Q) := by
  refine WP.aload_n 0 (dg tX4_tellWagon 0 rfl) rfl rfl ?_
  refine WP.aload_n 1 (dg tX4_tellWagon 1 rfl) rfl rfl ?_
  refine WP.getI fX4_95 h1.1 (dg tX4_tellWagon 2 rfl) ?_
  refine WP.iconst (v := 5) (dg tX4_tellWagon 3 rfl) (by decide) ?_
  refine WP.icmp_lt (tgt := 13) (dg tX4_tellWagon 4 rfl) (by decide) (fun z => ?_) (fun z => ?_)
  · replace h := h.1 z
    refine WP.iconst (v := 0) (dg tX4_tellWagon 7 rfl) (by decide) ?_
    exact h
  · replace h := h.2 z
    refine WP.iconst (v := 1) (dg tX4_tellWagon 5 rfl) (by decide) ?_
    refine WP.goto (tgt := 14) (dg tX4_tellWagon 6 rfl) (by decide) ?_
    exact h
theorem sg_X4_tellWagon_14 {T : Th} {M : Mm} {Q : Mm → Prop} {x0 : Nat} {x1 : Nat} {s0 : Int32} {s1 : Nat} (h0 : isX4 T x0) (h1 : isX1 T x1) (hs1 : isX4 T s1)
    (h : (s0 = 0 ∨ s0 = 1) ∧ (∀ M1 : Mm, M1 = sI M s1 6 s0 → WPi T mX4_readNumber [.ref x0, .int 0, .int 20] M1 (fun v3 M2 => WPi T mX4_readNumber [.ref x0, .int 0, .int 3] M2 (fun v5 M4 => WPi T mX4_readNumber [.ref x0, .int 0, .int 9] M4 (fun v7 M6 => WPi T mX4_readNumber [.ref x0, .int 0, .int 2] M6 (fun v9 M8 => (¬ (M8.1 x0 6) = 0 → (¬ (M8.1 x0 6) = 0 → Q M8) ∧ ((M8.1 x0 6) = 0 → WPv T mX1_addWagon [.ref x1, .int v3, .int v5, .int v7, .int v9] M8 (fun M10 => Q M10))) ∧ ((M8.1 x0 6) = 0 → WPi T mX1_isTaken [.ref x1, .ref (x1 + 6), .int v9, .int v3] M8 (fun v11 M10 => (v11 = 0 ∨ v11 = 1) ∧ (∀ M12 : Mm, M12 = sI M10 x0 6 v11 → (¬ (M12.1 x0 6) = 0 → Q M12) ∧ ((M12.1 x0 6) = 0 → WPv T mX1_addWagon [.ref x1, .int v3, .int v5, .int v7, .int v9] M12 (fun M13 => Q M13))))))))))) :
    WP T mX4_tellWagon 14 [(0, .ref x0), (1, .ref x1)] [.int s0, .ref s1] M (qv Q) := by
  obtain ⟨hb14, h⟩ := h
  refine WP.putZ fX4_22 hs1.1 hb14 (dg tX4_tellWagon 8 rfl) (fun M1 e_M1 => ?_)
  have h := h M1 e_M1
  refine WP.aload_n 0 (dg tX4_tellWagon 9 rfl) rfl rfl ?_
  refine WP.iconst (v := 0) (dg tX4_tellWagon 10 rfl) (by decide) ?_
  refine WP.bipush (v := 20) (dg tX4_tellWagon 11 rfl) (by decide) ?_
  refine WP.callVi (As := [.int 0, .int 20]) (st := []) vX4_66 h0.1 rfl rfl ⟨Nat.le_of_ble_eq_true rfl, Nat.le_of_ble_eq_true rfl⟩ (Nat.le_of_ble_eq_true rfl) rfl (dg tX4_tellWagon 12 rfl) h (fun v3 M2 h => ?_)
  refine WP.istore_n (L2 := [(2, .int v3), (0, .ref x0), (1, .ref x1)]) (dg tX4_tellWagon 13 rfl) rfl (by decide) rfl ?_
  refine WP.aload_n 1 (dg tX4_tellWagon 14 rfl) rfl rfl ?_
  refine WP.iconst (v := 0) (dg tX4_tellWagon 15 rfl) (by decide) ?_
  refine WP.iconst (v := 3) (dg tX4_tellWagon 16 rfl) (by decide) ?_
  refine WP.callVi (As := [.int 0, .int 3]) (st := []) vX4_66 h0.1 rfl rfl ⟨Nat.le_of_ble_eq_true rfl, Nat.le_of_ble_eq_true rfl⟩ (Nat.le_of_ble_eq_true rfl) rfl (dg tX4_tellWagon 17 rfl) h (fun v5 M4 h => ?_)
  refine WP.istore_n (L2 := [(3, .int v5), (2, .int v3), (0, .ref x0), (1, .ref x1)]) (dg tX4_tellWagon 18 rfl) rfl (by decide) rfl ?_
  refine WP.aload_n 2 (dg tX4_tellWagon 19 rfl) rfl rfl ?_
  refine WP.iconst (v := 0) (dg tX4_tellWagon 20 rfl) (by decide) ?_
  refine WP.bipush (v := 9) (dg tX4_tellWagon 21 rfl) (by decide) ?_
  refine WP.callVi (As := [.int 0, .int 9]) (st := []) vX4_66 h0.1 rfl rfl ⟨Nat.le_of_ble_eq_true rfl, Nat.le_of_ble_eq_true rfl⟩ (Nat.le_of_ble_eq_true rfl) rfl (dg tX4_tellWagon 22 rfl) h (fun v7 M6 h => ?_)
  refine WP.istore (L2 := [(4, .int v7), (3, .int v5), (2, .int v3), (0, .ref x0), (1, .ref x1)]) (dg tX4_tellWagon 23 rfl) (by decide) rfl ?_
  refine WP.aload_n 3 (dg tX4_tellWagon 24 rfl) rfl rfl ?_
  refine WP.iconst (v := 0) (dg tX4_tellWagon 25 rfl) (by decide) ?_
  refine WP.iconst (v := 2) (dg tX4_tellWagon 26 rfl) (by decide) ?_
  refine WP.callVi (As := [.int 0, .int 2]) (st := []) vX4_66 h0.1 rfl rfl ⟨Nat.le_of_ble_eq_true rfl, Nat.le_of_ble_eq_true rfl⟩ (Nat.le_of_ble_eq_true rfl) rfl (dg tX4_tellWagon 27 rfl) h (fun v9 M8 h => ?_)
  refine WP.istore (L2 := [(5, .int v9), (4, .int v7), (3, .int v5), (2, .int v3), (0, .ref x0), (1, .ref x1)]) (dg tX4_tellWagon 28 rfl) (by decide) rfl ?_
  refine WP.aload_n 4 (dg tX4_tellWagon 29 rfl) rfl rfl ?_
  refine WP.getI fX4_22 h0.1 (dg tX4_tellWagon 30 rfl) ?_
  refine WP.if_ne (tgt := 71) (dg tX4_tellWagon 31 rfl) (by decide) (fun z => ?_) (fun z => ?_)
  · replace h := h.1 z
    refine WP.aload_n 4 (dg tX4_tellWagon 40 rfl) rfl rfl ?_
    refine WP.getI fX4_22 h0.1 (dg tX4_tellWagon 41 rfl) ?_
    refine WP.if_ne (tgt := 88) (dg tX4_tellWagon 42 rfl) (by decide) (fun z => ?_) (fun z => ?_)
    · replace h := h.1 z
      exact WP.vret rfl (dg tX4_tellWagon 49 rfl) ⟨rfl, h⟩
    · replace h := h.2 z
      refine WP.aload_n 5 (dg tX4_tellWagon 43 rfl) rfl rfl ?_
      refine WP.iload_n 3 (dg tX4_tellWagon 44 rfl) rfl rfl ?_
      refine WP.iload_n 2 (dg tX4_tellWagon 45 rfl) rfl rfl ?_
      refine WP.iload 1 (dg tX4_tellWagon 46 rfl) rfl ?_
      refine WP.iload 0 (dg tX4_tellWagon 47 rfl) rfl ?_
      refine WP.callVv (As := [.int v3, .int v5, .int v7, .int v9]) (st := []) vX4_105 h1.1 rfl rfl ⟨Nat.le_of_ble_eq_true rfl, Nat.le_of_ble_eq_true rfl⟩ (Nat.le_of_ble_eq_true rfl) rfl (dg tX4_tellWagon 48 rfl) h (fun M10 h => ?_)
      exact WP.vret rfl (dg tX4_tellWagon 49 rfl) ⟨rfl, h⟩
  · replace h := h.2 z
    refine WP.aload_n 4 (dg tX4_tellWagon 32 rfl) rfl rfl ?_
    refine WP.aload_n 5 (dg tX4_tellWagon 33 rfl) rfl rfl ?_
    refine WP.aload_n 5 (dg tX4_tellWagon 34 rfl) rfl rfl ?_
    refine WP.getF fX4_98 h1.1 (dg tX4_tellWagon 35 rfl) ?_
    refine WP.iload 0 (dg tX4_tellWagon 36 rfl) rfl ?_
    refine WP.iload_n 3 (dg tX4_tellWagon 37 rfl) rfl rfl ?_
    refine WP.callVi (As := [.ref (x1 + 6), .int v9, .int v3]) (st := [.ref x0]) vX4_101 h1.1 rfl rfl ⟨Nat.le_of_ble_eq_true rfl, Nat.le_of_ble_eq_true rfl⟩ (Nat.le_of_ble_eq_true rfl) rfl (dg tX4_tellWagon 38 rfl) h (fun v11 M10 h => ?_)
    obtain ⟨hb68, h⟩ := h
    refine WP.putZ fX4_22 h0.1 hb68 (dg tX4_tellWagon 39 rfl) (fun M12 e_M12 => ?_)
    have h := h M12 e_M12
    refine WP.aload_n 4 (dg tX4_tellWagon 40 rfl) rfl rfl ?_
    refine WP.getI fX4_22 h0.1 (dg tX4_tellWagon 41 rfl) ?_
    refine WP.if_ne (tgt := 88) (dg tX4_tellWagon 42 rfl) (by decide) (fun z => ?_) (fun z => ?_)
    · replace h := h.1 z
      exact WP.vret rfl (dg tX4_tellWagon 49 rfl) ⟨rfl, h⟩
    · replace h := h.2 z
      refine WP.aload_n 5 (dg tX4_tellWagon 43 rfl) rfl rfl ?_
      refine WP.iload_n 3 (dg tX4_tellWagon 44 rfl) rfl rfl ?_
      refine WP.iload_n 2 (dg tX4_tellWagon 45 rfl) rfl rfl ?_
      refine WP.iload 1 (dg tX4_tellWagon 46 rfl) rfl ?_
      refine WP.iload 0 (dg tX4_tellWagon 47 rfl) rfl ?_
      refine WP.callVv (As := [.int v3, .int v5, .int v7, .int v9]) (st := []) vX4_105 h1.1 rfl rfl ⟨Nat.le_of_ble_eq_true rfl, Nat.le_of_ble_eq_true rfl⟩ (Nat.le_of_ble_eq_true rfl) rfl (dg tX4_tellWagon 48 rfl) h (fun M13 h => ?_)
      exact WP.vret rfl (dg tX4_tellWagon 49 rfl) ⟨rfl, h⟩
theorem sg_X4_tellPair_0 {T : Th} {M : Mm} {Q : Mm → Prop} {x0 : Nat} {x1 : Nat} (h0 : isX4 T x0) (h1 : isX1 T x1)
    (h : ((M.1 x1 7) < 4 → WP T mX4_tellPair 14 [(0, .ref x0), (1, .ref x1)] [.int 0, .ref x0] M (qv Q)) ∧ (¬ (M.1 x1 7) < 4 → WP T mX4_tellPair 14 [(0, .ref x0), (1, .ref x1)] [.int 1, .ref x0] M (qv Q))) :
    WP T mX4_tellPair 0 [(0, .ref x0), (1, .ref x1)] [] M (qv Q) := by
  refine WP.aload_n 0 (dg tX4_tellPair 0 rfl) rfl rfl ?_
  refine WP.aload_n 1 (dg tX4_tellPair 1 rfl) rfl rfl ?_
  refine WP.getI fX4_109 h1.1 (dg tX4_tellPair 2 rfl) ?_
  refine WP.iconst (v := 4) (dg tX4_tellPair 3 rfl) (by decide) ?_
  refine WP.icmp_lt (tgt := 13) (dg tX4_tellPair 4 rfl) (by decide) (fun z => ?_) (fun z => ?_)
  · replace h := h.1 z
    refine WP.iconst (v := 0) (dg tX4_tellPair 7 rfl) (by decide) ?_
    exact h
  · replace h := h.2 z
    refine WP.iconst (v := 1) (dg tX4_tellPair 5 rfl) (by decide) ?_
    refine WP.goto (tgt := 14) (dg tX4_tellPair 6 rfl) (by decide) ?_
    exact h
theorem sg_X4_tellPair_14 {T : Th} {M : Mm} {Q : Mm → Prop} {x0 : Nat} {x1 : Nat} {s0 : Int32} {s1 : Nat} (h0 : isX4 T x0) (h1 : isX1 T x1) (hs1 : isX4 T s1)
    (h : (s0 = 0 ∨ s0 = 1) ∧ (∀ M1 : Mm, M1 = sI M s1 6 s0 → WPi T mX4_readNumber [.ref x0, .int 0, .int ((M1.1 x1 6) - 1)] M1 (fun v3 M2 => WPi T mX4_readNumber [.ref x0, .int 0, .int ((M2.1 x1 6) - 1)] M2 (fun v5 M4 => (¬ (M4.1 x0 6) = 0 → (¬ (M4.1 x0 6) = 0 → Q M4) ∧ ((M4.1 x0 6) = 0 → WPv T mX1_addPair [.ref x1, .int v3, .int v5] M4 (fun M6 => Q M6))) ∧ ((M4.1 x0 6) = 0 → (¬ v3 = v5 → ∀ M6 : Mm, M6 = sI M4 x0 6 0 → (¬ (M6.1 x0 6) = 0 → Q M6) ∧ ((M6.1 x0 6) = 0 → WPv T mX1_addPair [.ref x1, .int v3, .int v5] M6 (fun M7 => Q M7))) ∧ (v3 = v5 → ∀ M6 : Mm, M6 = sI M4 x0 6 1 → (¬ (M6.1 x0 6) = 0 → Q M6) ∧ ((M6.1 x0 6) = 0 → WPv T mX1_addPair [.ref x1, .int v3, .int v5] M6 (fun M7 => Q M7)))))))) :
    WP T mX4_tellPair 14 [(0, .ref x0), (1, .ref x1)] [.int s0, .ref s1] M (qv Q) := by
  obtain ⟨hb14, h⟩ := h
  refine WP.putZ fX4_22 hs1.1 hb14 (dg tX4_tellPair 8 rfl) (fun M1 e_M1 => ?_)
  have h := h M1 e_M1
  refine WP.aload_n 0 (dg tX4_tellPair 9 rfl) rfl rfl ?_
  refine WP.iconst (v := 0) (dg tX4_tellPair 10 rfl) (by decide) ?_
  refine WP.aload_n 1 (dg tX4_tellPair 11 rfl) rfl rfl ?_
  refine WP.getI fX4_95 h1.1 (dg tX4_tellPair 12 rfl) ?_
  refine WP.iconst (v := 1) (dg tX4_tellPair 13 rfl) (by decide) ?_
  refine WP.isub (dg tX4_tellPair 14 rfl) ?_
  refine WP.callVi (As := [.int 0, .int ((M1.1 x1 6) - 1)]) (st := []) vX4_66 h0.1 rfl rfl ⟨Nat.le_of_ble_eq_true rfl, Nat.le_of_ble_eq_true rfl⟩ (Nat.le_of_ble_eq_true rfl) rfl (dg tX4_tellPair 15 rfl) h (fun v3 M2 h => ?_)
  refine WP.istore_n (L2 := [(2, .int v3), (0, .ref x0), (1, .ref x1)]) (dg tX4_tellPair 16 rfl) rfl (by decide) rfl ?_
  refine WP.aload_n 1 (dg tX4_tellPair 17 rfl) rfl rfl ?_
  refine WP.iconst (v := 0) (dg tX4_tellPair 18 rfl) (by decide) ?_
  refine WP.aload_n 2 (dg tX4_tellPair 19 rfl) rfl rfl ?_
  refine WP.getI fX4_95 h1.1 (dg tX4_tellPair 20 rfl) ?_
  refine WP.iconst (v := 1) (dg tX4_tellPair 21 rfl) (by decide) ?_
  refine WP.isub (dg tX4_tellPair 22 rfl) ?_
  refine WP.callVi (As := [.int 0, .int ((M2.1 x1 6) - 1)]) (st := []) vX4_66 h0.1 rfl rfl ⟨Nat.le_of_ble_eq_true rfl, Nat.le_of_ble_eq_true rfl⟩ (Nat.le_of_ble_eq_true rfl) rfl (dg tX4_tellPair 23 rfl) h (fun v5 M4 h => ?_)
  refine WP.istore_n (L2 := [(3, .int v5), (2, .int v3), (0, .ref x0), (1, .ref x1)]) (dg tX4_tellPair 24 rfl) rfl (by decide) rfl ?_
  refine WP.aload_n 2 (dg tX4_tellPair 25 rfl) rfl rfl ?_
  refine WP.getI fX4_22 h0.1 (dg tX4_tellPair 26 rfl) ?_
  refine WP.if_ne (tgt := 62) (dg tX4_tellPair 27 rfl) (by decide) (fun z => ?_) (fun z => ?_)
  · replace h := h.1 z
    refine WP.aload_n 2 (dg tX4_tellPair 36 rfl) rfl rfl ?_
    refine WP.getI fX4_22 h0.1 (dg tX4_tellPair 37 rfl) ?_
    refine WP.if_ne (tgt := 75) (dg tX4_tellPair 38 rfl) (by decide) (fun z => ?_) (fun z => ?_)
    · replace h := h.1 z
      exact WP.vret rfl (dg tX4_tellPair 43 rfl) ⟨rfl, h⟩
    · replace h := h.2 z
      refine WP.aload_n 3 (dg tX4_tellPair 39 rfl) rfl rfl ?_
      refine WP.iload_n 1 (dg tX4_tellPair 40 rfl) rfl rfl ?_
      refine WP.iload_n 0 (dg tX4_tellPair 41 rfl) rfl rfl ?_
      refine WP.callVv (As := [.int v3, .int v5]) (st := []) vX4_112 h1.1 rfl rfl ⟨Nat.le_of_ble_eq_true rfl, Nat.le_of_ble_eq_true rfl⟩ (Nat.le_of_ble_eq_true rfl) rfl (dg tX4_tellPair 42 rfl) h (fun M6 h => ?_)
      exact WP.vret rfl (dg tX4_tellPair 43 rfl) ⟨rfl, h⟩
  · replace h := h.2 z
    refine WP.aload_n 2 (dg tX4_tellPair 28 rfl) rfl rfl ?_
    refine WP.iload_n 1 (dg tX4_tellPair 29 rfl) rfl rfl ?_
    refine WP.iload_n 0 (dg tX4_tellPair 30 rfl) rfl rfl ?_
    refine WP.icmp_ne (tgt := 58) (dg tX4_tellPair 31 rfl) (by decide) (fun z => ?_) (fun z => ?_)
    · replace h := h.1 z
      refine WP.iconst (v := 0) (dg tX4_tellPair 34 rfl) (by decide) ?_
      refine WP.putZ fX4_22 h0.1 (by decide) (dg tX4_tellPair 35 rfl) (fun M6 e_M6 => ?_)
      have h := h M6 e_M6
      refine WP.aload_n 2 (dg tX4_tellPair 36 rfl) rfl rfl ?_
      refine WP.getI fX4_22 h0.1 (dg tX4_tellPair 37 rfl) ?_
      refine WP.if_ne (tgt := 75) (dg tX4_tellPair 38 rfl) (by decide) (fun z => ?_) (fun z => ?_)
      · replace h := h.1 z
        exact WP.vret rfl (dg tX4_tellPair 43 rfl) ⟨rfl, h⟩
      · replace h := h.2 z
        refine WP.aload_n 3 (dg tX4_tellPair 39 rfl) rfl rfl ?_
        refine WP.iload_n 1 (dg tX4_tellPair 40 rfl) rfl rfl ?_
        refine WP.iload_n 0 (dg tX4_tellPair 41 rfl) rfl rfl ?_
        refine WP.callVv (As := [.int v3, .int v5]) (st := []) vX4_112 h1.1 rfl rfl ⟨Nat.le_of_ble_eq_true rfl, Nat.le_of_ble_eq_true rfl⟩ (Nat.le_of_ble_eq_true rfl) rfl (dg tX4_tellPair 42 rfl) h (fun M7 h => ?_)
        exact WP.vret rfl (dg tX4_tellPair 43 rfl) ⟨rfl, h⟩
    · replace h := h.2 z
      refine WP.iconst (v := 1) (dg tX4_tellPair 32 rfl) (by decide) ?_
      refine WP.goto (tgt := 59) (dg tX4_tellPair 33 rfl) (by decide) ?_
      refine WP.putZ fX4_22 h0.1 (by decide) (dg tX4_tellPair 35 rfl) (fun M6 e_M6 => ?_)
      have h := h M6 e_M6
      refine WP.aload_n 2 (dg tX4_tellPair 36 rfl) rfl rfl ?_
      refine WP.getI fX4_22 h0.1 (dg tX4_tellPair 37 rfl) ?_
      refine WP.if_ne (tgt := 75) (dg tX4_tellPair 38 rfl) (by decide) (fun z => ?_) (fun z => ?_)
      · replace h := h.1 z
        exact WP.vret rfl (dg tX4_tellPair 43 rfl) ⟨rfl, h⟩
      · replace h := h.2 z
        refine WP.aload_n 3 (dg tX4_tellPair 39 rfl) rfl rfl ?_
        refine WP.iload_n 1 (dg tX4_tellPair 40 rfl) rfl rfl ?_
        refine WP.iload_n 0 (dg tX4_tellPair 41 rfl) rfl rfl ?_
        refine WP.callVv (As := [.int v3, .int v5]) (st := []) vX4_112 h1.1 rfl rfl ⟨Nat.le_of_ble_eq_true rfl, Nat.le_of_ble_eq_true rfl⟩ (Nat.le_of_ble_eq_true rfl) rfl (dg tX4_tellPair 42 rfl) h (fun M7 h => ?_)
        exact WP.vret rfl (dg tX4_tellPair 43 rfl) ⟨rfl, h⟩
theorem sg_X4_readNumber_0 {T : Th} {M : Mm} {Q : Int32 → Mm → Prop} {x0 : Nat} {x1 : Int32} {x2 : Int32} (h0 : isX4 T x0)
    (h : ((M.1 x0 6) = 0 → WPv T mX4_readToken [.ref x0] M (fun M1 => (¬ (M1.1 x0 3) = 2 → ∀ M2 : Mm, M2 = sI M1 x0 6 1 → Q x1 M2) ∧ ((M1.1 x0 3) = 2 → ((M1.1 x0 5) < x1 → ∀ M2 : Mm, M2 = sI M1 x0 6 1 → Q x1 M2) ∧ (¬ (M1.1 x0 5) < x1 → ((M1.1 x0 5) ≤ x2 → Q (M1.1 x0 5) M1) ∧ (¬ (M1.1 x0 5) ≤ x2 → ∀ M2 : Mm, M2 = sI M1 x0 6 1 → Q x1 M2))))) ∧ (¬ (M.1 x0 6) = 0 → Q x1 M)) :
    WP T mX4_readNumber 0 [(0, .ref x0), (1, .int x1), (2, .int x2)] [] M (qi Q) := by
  refine WP.aload_n 0 (dg tX4_readNumber 0 rfl) rfl rfl ?_
  refine WP.getI fX4_22 h0.1 (dg tX4_readNumber 1 rfl) ?_
  refine WP.if_eq (tgt := 9) (dg tX4_readNumber 2 rfl) (by decide) (fun z => ?_) (fun z => ?_)
  · replace h := h.1 z
    refine WP.aload_n 0 (dg tX4_readNumber 5 rfl) rfl rfl ?_
    refine WP.callVv (As := []) (st := []) vX4_26 h0.1 rfl rfl ⟨Nat.le_of_ble_eq_true rfl, Nat.le_of_ble_eq_true rfl⟩ (Nat.le_of_ble_eq_true rfl) rfl (dg tX4_readNumber 6 rfl) h (fun M1 h => ?_)
    refine WP.aload_n 0 (dg tX4_readNumber 7 rfl) rfl rfl ?_
    refine WP.getI fX4_29 h0.1 (dg tX4_readNumber 8 rfl) ?_
    refine WP.iconst (v := 2) (dg tX4_readNumber 9 rfl) (by decide) ?_
    refine WP.icmp_ne (tgt := 37) (dg tX4_readNumber 10 rfl) (by decide) (fun z => ?_) (fun z => ?_)
    · replace h := h.1 z
      refine WP.aload_n 0 (dg tX4_readNumber 19 rfl) rfl rfl ?_
      refine WP.iconst (v := 1) (dg tX4_readNumber 20 rfl) (by decide) ?_
      refine WP.putZ fX4_22 h0.1 (by decide) (dg tX4_readNumber 21 rfl) (fun M2 e_M2 => ?_)
      have h := h M2 e_M2
      refine WP.iload_n 1 (dg tX4_readNumber 22 rfl) rfl rfl ?_
      exact WP.iret rfl (dg tX4_readNumber 23 rfl) ⟨_, rfl, h⟩
    · replace h := h.2 z
      refine WP.aload_n 0 (dg tX4_readNumber 11 rfl) rfl rfl ?_
      refine WP.getI fX4_42 h0.1 (dg tX4_readNumber 12 rfl) ?_
      refine WP.iload_n 1 (dg tX4_readNumber 13 rfl) rfl rfl ?_
      refine WP.icmp_lt (tgt := 37) (dg tX4_readNumber 14 rfl) (by decide) (fun z => ?_) (fun z => ?_)
      · replace h := h.1 z
        refine WP.aload_n 0 (dg tX4_readNumber 19 rfl) rfl rfl ?_
        refine WP.iconst (v := 1) (dg tX4_readNumber 20 rfl) (by decide) ?_
        refine WP.putZ fX4_22 h0.1 (by decide) (dg tX4_readNumber 21 rfl) (fun M2 e_M2 => ?_)
        have h := h M2 e_M2
        refine WP.iload_n 1 (dg tX4_readNumber 22 rfl) rfl rfl ?_
        exact WP.iret rfl (dg tX4_readNumber 23 rfl) ⟨_, rfl, h⟩
      · replace h := h.2 z
        refine WP.aload_n 0 (dg tX4_readNumber 15 rfl) rfl rfl ?_
        refine WP.getI fX4_42 h0.1 (dg tX4_readNumber 16 rfl) ?_
        refine WP.iload_n 2 (dg tX4_readNumber 17 rfl) rfl rfl ?_
        refine WP.icmp_le (tgt := 44) (dg tX4_readNumber 18 rfl) (by decide) (fun z => ?_) (fun z => ?_)
        · replace h := h.1 z
          refine WP.aload_n 0 (dg tX4_readNumber 24 rfl) rfl rfl ?_
          refine WP.getI fX4_42 h0.1 (dg tX4_readNumber 25 rfl) ?_
          exact WP.iret rfl (dg tX4_readNumber 26 rfl) ⟨_, rfl, h⟩
        · replace h := h.2 z
          refine WP.aload_n 0 (dg tX4_readNumber 19 rfl) rfl rfl ?_
          refine WP.iconst (v := 1) (dg tX4_readNumber 20 rfl) (by decide) ?_
          refine WP.putZ fX4_22 h0.1 (by decide) (dg tX4_readNumber 21 rfl) (fun M2 e_M2 => ?_)
          have h := h M2 e_M2
          refine WP.iload_n 1 (dg tX4_readNumber 22 rfl) rfl rfl ?_
          exact WP.iret rfl (dg tX4_readNumber 23 rfl) ⟨_, rfl, h⟩
  · replace h := h.2 z
    refine WP.iload_n 1 (dg tX4_readNumber 3 rfl) rfl rfl ?_
    exact WP.iret rfl (dg tX4_readNumber 4 rfl) ⟨_, rfl, h⟩
theorem sg_X4_readStop_0 {T : Th} {M : Mm} {Q : Mm → Prop} {x0 : Nat} (h0 : isX4 T x0)
    (h : (¬ (M.1 x0 6) = 0 → Q M) ∧ ((M.1 x0 6) = 0 → WPv T mX4_readToken [.ref x0] M (fun M1 => ((M1.1 x0 3) = 3 → ∀ M2 : Mm, M2 = sI M1 x0 6 0 → Q M2) ∧ (¬ (M1.1 x0 3) = 3 → ∀ M2 : Mm, M2 = sI M1 x0 6 1 → Q M2)))) :
    WP T mX4_readStop 0 [(0, .ref x0)] [] M (qv Q) := by
  refine WP.aload_n 0 (dg tX4_readStop 0 rfl) rfl rfl ?_
  refine WP.getI fX4_22 h0.1 (dg tX4_readStop 1 rfl) ?_
  refine WP.if_ne (tgt := 28) (dg tX4_readStop 2 rfl) (by decide) (fun z => ?_) (fun z => ?_)
  · replace h := h.1 z
    exact WP.vret rfl (dg tX4_readStop 14 rfl) ⟨rfl, h⟩
  · replace h := h.2 z
    refine WP.aload_n 0 (dg tX4_readStop 3 rfl) rfl rfl ?_
    refine WP.callVv (As := []) (st := []) vX4_26 h0.1 rfl rfl ⟨Nat.le_of_ble_eq_true rfl, Nat.le_of_ble_eq_true rfl⟩ (Nat.le_of_ble_eq_true rfl) rfl (dg tX4_readStop 4 rfl) h (fun M1 h => ?_)
    refine WP.aload_n 0 (dg tX4_readStop 5 rfl) rfl rfl ?_
    refine WP.aload_n 0 (dg tX4_readStop 6 rfl) rfl rfl ?_
    refine WP.getI fX4_29 h0.1 (dg tX4_readStop 7 rfl) ?_
    refine WP.iconst (v := 3) (dg tX4_readStop 8 rfl) (by decide) ?_
    refine WP.icmp_eq (tgt := 24) (dg tX4_readStop 9 rfl) (by decide) (fun z => ?_) (fun z => ?_)
    · replace h := h.1 z
      refine WP.iconst (v := 0) (dg tX4_readStop 12 rfl) (by decide) ?_
      refine WP.putZ fX4_22 h0.1 (by decide) (dg tX4_readStop 13 rfl) (fun M2 e_M2 => ?_)
      have h := h M2 e_M2
      exact WP.vret rfl (dg tX4_readStop 14 rfl) ⟨rfl, h⟩
    · replace h := h.2 z
      refine WP.iconst (v := 1) (dg tX4_readStop 10 rfl) (by decide) ?_
      refine WP.goto (tgt := 25) (dg tX4_readStop 11 rfl) (by decide) ?_
      refine WP.putZ fX4_22 h0.1 (by decide) (dg tX4_readStop 13 rfl) (fun M2 e_M2 => ?_)
      have h := h M2 e_M2
      exact WP.vret rfl (dg tX4_readStop 14 rfl) ⟨rfl, h⟩
theorem sg_X4_readToken_0 {T : Th} {M : Mm} {Q : Mm → Prop} {x0 : Nat} (h0 : isX4 T x0)
    (h : ((M.1 x0 1) ≤ (M.1 x0 2) → WP T mX4_readToken 48 [(0, .ref x0)] [] M (qv Q)) ∧ (¬ (M.1 x0 1) ≤ (M.1 x0 2) → (200 ≤ (M.1 x0 2) → WP T mX4_readToken 48 [(0, .ref x0)] [] M (qv Q)) ∧ (¬ 200 ≤ (M.1 x0 2) → vp_in (M.1 x0 2) 200 ∧ ((¬ (M.1 (x0 + 1) (M.1 x0 2).toNatClampNeg) = 32 → WP T mX4_readToken 48 [(0, .ref x0)] [] M (qv Q)) ∧ ((M.1 (x0 + 1) (M.1 x0 2).toNatClampNeg) = 32 → ∀ M1 : Mm, M1 = sI M x0 2 ((M.1 x0 2) + 1) → WP T mX4_readToken 0 [(0, .ref x0)] [] M1 (qv Q)))))) :
    WP T mX4_readToken 0 [(0, .ref x0)] [] M (qv Q) := by
  refine WP.aload_n 0 (dg tX4_readToken 0 rfl) rfl rfl ?_
  refine WP.getI fX4_19 h0.1 (dg tX4_readToken 1 rfl) ?_
  refine WP.aload_n 0 (dg tX4_readToken 2 rfl) rfl rfl ?_
  refine WP.getI fX4_15 h0.1 (dg tX4_readToken 3 rfl) ?_
  refine WP.icmp_ge (tgt := 48) (dg tX4_readToken 4 rfl) (by decide) (fun z => ?_) (fun z => ?_)
  · replace h := h.1 z
    exact h
  · replace h := h.2 z
    refine WP.aload_n 0 (dg tX4_readToken 5 rfl) rfl rfl ?_
    refine WP.getI fX4_19 h0.1 (dg tX4_readToken 6 rfl) ?_
    refine WP.sipush (v := 200) (dg tX4_readToken 7 rfl) (by decide) ?_
    refine WP.icmp_ge (tgt := 48) (dg tX4_readToken 8 rfl) (by decide) (fun z => ?_) (fun z => ?_)
    · replace h := h.1 z
      exact h
    · replace h := h.2 z
      refine WP.aload_n 0 (dg tX4_readToken 9 rfl) rfl rfl ?_
      refine WP.getF fX4_9 h0.1 (dg tX4_readToken 10 rfl) ?_
      refine WP.aload_n 0 (dg tX4_readToken 11 rfl) rfl rfl ?_
      refine WP.getI fX4_19 h0.1 (dg tX4_readToken 12 rfl) ?_
      obtain ⟨hb29, h⟩ := h
      refine WP.iald h0.2 hb29 (dg tX4_readToken 13 rfl) ?_
      refine WP.bipush (v := 32) (dg tX4_readToken 14 rfl) (by decide) ?_
      refine WP.icmp_ne (tgt := 48) (dg tX4_readToken 15 rfl) (by decide) (fun z => ?_) (fun z => ?_)
      · replace h := h.1 z
        exact h
      · replace h := h.2 z
        refine WP.aload_n 0 (dg tX4_readToken 16 rfl) rfl rfl ?_
        refine WP.dup (dg tX4_readToken 17 rfl) rfl ?_
        refine WP.getI fX4_19 h0.1 (dg tX4_readToken 18 rfl) ?_
        refine WP.iconst (v := 1) (dg tX4_readToken 19 rfl) (by decide) ?_
        refine WP.iadd (dg tX4_readToken 20 rfl) ?_
        refine WP.putI fX4_19 h0.1 (dg tX4_readToken 21 rfl) (fun M1 e_M1 => ?_)
        have h := h M1 e_M1
        refine WP.goto (tgt := 0) (dg tX4_readToken 22 rfl) (by decide) ?_
        exact h
theorem sg_X4_readToken_48 {T : Th} {M : Mm} {Q : Mm → Prop} {x0 : Nat} (h0 : isX4 T x0)
    (h : ∀ M1 : Mm, M1 = sI M x0 4 (M.1 x0 2) → ∀ M2 : Mm, M2 = sI M1 x0 5 0 → ((M2.1 x0 1) ≤ (M2.1 x0 2) → ∀ M3 : Mm, M3 = sI M2 x0 3 0 → Q M3) ∧ (¬ (M2.1 x0 1) ≤ (M2.1 x0 2) → ((M2.1 x0 2) < 200 → vp_in (M2.1 x0 2) 200 ∧ (WPi T mX4_isLetter [.int (M2.1 (x0 + 1) (M2.1 x0 2).toNatClampNeg)] M2 (fun v4 M3 => (v4 = 0 → vp_in (M3.1 x0 2) 200 ∧ (WPi T mX4_isDigit [.int (M3.1 (x0 + 1) (M3.1 x0 2).toNatClampNeg)] M3 (fun v6 M5 => (v6 = 0 → vp_in (M5.1 x0 2) 200 ∧ ((¬ (M5.1 (x0 + 1) (M5.1 x0 2).toNatClampNeg) = 59 → ∀ M7 : Mm, M7 = sI M5 x0 3 4 → ∀ M8 : Mm, M8 = sI M7 x0 2 ((M7.1 x0 2) + 1) → Q M8) ∧ ((M5.1 (x0 + 1) (M5.1 x0 2).toNatClampNeg) = 59 → ∀ M7 : Mm, M7 = sI M5 x0 3 3 → ∀ M8 : Mm, M8 = sI M7 x0 2 ((M7.1 x0 2) + 1) → Q M8))) ∧ (¬ v6 = 0 → WPv T mX4_readDigits [.ref x0] M5 (fun M7 => Q M7))))) ∧ (¬ v4 = 0 → WPv T mX4_readLetters [.ref x0] M3 (fun M5 => Q M5))))) ∧ (¬ (M2.1 x0 2) < 200 → ∀ M3 : Mm, M3 = sI M2 x0 3 0 → Q M3))) :
    WP T mX4_readToken 48 [(0, .ref x0)] [] M (qv Q) := by
  refine WP.aload_n 0 (dg tX4_readToken 23 rfl) rfl rfl ?_
  refine WP.aload_n 0 (dg tX4_readToken 24 rfl) rfl rfl ?_
  refine WP.getI fX4_19 h0.1 (dg tX4_readToken 25 rfl) ?_
  refine WP.putI fX4_39 h0.1 (dg tX4_readToken 26 rfl) (fun M1 e_M1 => ?_)
  have h := h M1 e_M1
  refine WP.aload_n 0 (dg tX4_readToken 27 rfl) rfl rfl ?_
  refine WP.iconst (v := 0) (dg tX4_readToken 28 rfl) (by decide) ?_
  refine WP.putI fX4_42 h0.1 (dg tX4_readToken 29 rfl) (fun M2 e_M2 => ?_)
  have h := h M2 e_M2
  refine WP.aload_n 0 (dg tX4_readToken 30 rfl) rfl rfl ?_
  refine WP.getI fX4_19 h0.1 (dg tX4_readToken 31 rfl) ?_
  refine WP.aload_n 0 (dg tX4_readToken 32 rfl) rfl rfl ?_
  refine WP.getI fX4_15 h0.1 (dg tX4_readToken 33 rfl) ?_
  refine WP.icmp_ge (tgt := 82) (dg tX4_readToken 34 rfl) (by decide) (fun z => ?_) (fun z => ?_)
  · replace h := h.1 z
    refine WP.aload_n 0 (dg tX4_readToken 39 rfl) rfl rfl ?_
    refine WP.iconst (v := 0) (dg tX4_readToken 40 rfl) (by decide) ?_
    refine WP.putI fX4_29 h0.1 (dg tX4_readToken 41 rfl) (fun M3 e_M3 => ?_)
    have h := h M3 e_M3
    refine WP.goto (tgt := 167) (dg tX4_readToken 42 rfl) (by decide) ?_
    exact WP.vret rfl (dg tX4_readToken 81 rfl) ⟨rfl, h⟩
  · replace h := h.2 z
    refine WP.aload_n 0 (dg tX4_readToken 35 rfl) rfl rfl ?_
    refine WP.getI fX4_19 h0.1 (dg tX4_readToken 36 rfl) ?_
    refine WP.sipush (v := 200) (dg tX4_readToken 37 rfl) (by decide) ?_
    refine WP.icmp_lt (tgt := 90) (dg tX4_readToken 38 rfl) (by decide) (fun z => ?_) (fun z => ?_)
    · replace h := h.1 z
      refine WP.aload_n 0 (dg tX4_readToken 43 rfl) rfl rfl ?_
      refine WP.getF fX4_9 h0.1 (dg tX4_readToken 44 rfl) ?_
      refine WP.aload_n 0 (dg tX4_readToken 45 rfl) rfl rfl ?_
      refine WP.getI fX4_19 h0.1 (dg tX4_readToken 46 rfl) ?_
      obtain ⟨hb98, h⟩ := h
      refine WP.iald h0.2 hb98 (dg tX4_readToken 47 rfl) ?_
      refine WP.callSi (As := [.int (M2.1 (x0 + 1) (M2.1 x0 2).toNatClampNeg)]) (st := []) vX4_116 rfl ⟨Nat.le_of_ble_eq_true rfl, Nat.le_of_ble_eq_true rfl⟩ (Nat.le_of_ble_eq_true rfl) rfl (dg tX4_readToken 48 rfl) h (fun v4 M3 h => ?_)
      refine WP.if_eq (tgt := 112) (dg tX4_readToken 49 rfl) (by decide) (fun z => ?_) (fun z => ?_)
      · replace h := h.1 z
        refine WP.aload_n 0 (dg tX4_readToken 53 rfl) rfl rfl ?_
        refine WP.getF fX4_9 h0.1 (dg tX4_readToken 54 rfl) ?_
        refine WP.aload_n 0 (dg tX4_readToken 55 rfl) rfl rfl ?_
        refine WP.getI fX4_19 h0.1 (dg tX4_readToken 56 rfl) ?_
        obtain ⟨hb120, h⟩ := h
        refine WP.iald h0.2 hb120 (dg tX4_readToken 57 rfl) ?_
        refine WP.callSi (As := [.int (M3.1 (x0 + 1) (M3.1 x0 2).toNatClampNeg)]) (st := []) vX4_122 rfl ⟨Nat.le_of_ble_eq_true rfl, Nat.le_of_ble_eq_true rfl⟩ (Nat.le_of_ble_eq_true rfl) rfl (dg tX4_readToken 58 rfl) h (fun v6 M5 h => ?_)
        refine WP.if_eq (tgt := 134) (dg tX4_readToken 59 rfl) (by decide) (fun z => ?_) (fun z => ?_)
        · replace h := h.1 z
          refine WP.aload_n 0 (dg tX4_readToken 63 rfl) rfl rfl ?_
          refine WP.aload_n 0 (dg tX4_readToken 64 rfl) rfl rfl ?_
          refine WP.getF fX4_9 h0.1 (dg tX4_readToken 65 rfl) ?_
          refine WP.aload_n 0 (dg tX4_readToken 66 rfl) rfl rfl ?_
          refine WP.getI fX4_19 h0.1 (dg tX4_readToken 67 rfl) ?_
          obtain ⟨hb143, h⟩ := h
          refine WP.iald h0.2 hb143 (dg tX4_readToken 68 rfl) ?_
          refine WP.bipush (v := 59) (dg tX4_readToken 69 rfl) (by decide) ?_
          refine WP.icmp_ne (tgt := 153) (dg tX4_readToken 70 rfl) (by decide) (fun z => ?_) (fun z => ?_)
          · replace h := h.1 z
            refine WP.iconst (v := 4) (dg tX4_readToken 73 rfl) (by decide) ?_
            refine WP.putI fX4_29 h0.1 (dg tX4_readToken 74 rfl) (fun M7 e_M7 => ?_)
            have h := h M7 e_M7
            refine WP.aload_n 0 (dg tX4_readToken 75 rfl) rfl rfl ?_
            refine WP.dup (dg tX4_readToken 76 rfl) rfl ?_
            refine WP.getI fX4_19 h0.1 (dg tX4_readToken 77 rfl) ?_
            refine WP.iconst (v := 1) (dg tX4_readToken 78 rfl) (by decide) ?_
            refine WP.iadd (dg tX4_readToken 79 rfl) ?_
            refine WP.putI fX4_19 h0.1 (dg tX4_readToken 80 rfl) (fun M8 e_M8 => ?_)
            have h := h M8 e_M8
            exact WP.vret rfl (dg tX4_readToken 81 rfl) ⟨rfl, h⟩
          · replace h := h.2 z
            refine WP.iconst (v := 3) (dg tX4_readToken 71 rfl) (by decide) ?_
            refine WP.goto (tgt := 154) (dg tX4_readToken 72 rfl) (by decide) ?_
            refine WP.putI fX4_29 h0.1 (dg tX4_readToken 74 rfl) (fun M7 e_M7 => ?_)
            have h := h M7 e_M7
            refine WP.aload_n 0 (dg tX4_readToken 75 rfl) rfl rfl ?_
            refine WP.dup (dg tX4_readToken 76 rfl) rfl ?_
            refine WP.getI fX4_19 h0.1 (dg tX4_readToken 77 rfl) ?_
            refine WP.iconst (v := 1) (dg tX4_readToken 78 rfl) (by decide) ?_
            refine WP.iadd (dg tX4_readToken 79 rfl) ?_
            refine WP.putI fX4_19 h0.1 (dg tX4_readToken 80 rfl) (fun M8 e_M8 => ?_)
            have h := h M8 e_M8
            exact WP.vret rfl (dg tX4_readToken 81 rfl) ⟨rfl, h⟩
        · replace h := h.2 z
          refine WP.aload_n 0 (dg tX4_readToken 60 rfl) rfl rfl ?_
          refine WP.callVv (As := []) (st := []) vX4_125 h0.1 rfl rfl ⟨Nat.le_of_ble_eq_true rfl, Nat.le_of_ble_eq_true rfl⟩ (Nat.le_of_ble_eq_true rfl) rfl (dg tX4_readToken 61 rfl) h (fun M7 h => ?_)
          refine WP.goto (tgt := 167) (dg tX4_readToken 62 rfl) (by decide) ?_
          exact WP.vret rfl (dg tX4_readToken 81 rfl) ⟨rfl, h⟩
      · replace h := h.2 z
        refine WP.aload_n 0 (dg tX4_readToken 50 rfl) rfl rfl ?_
        refine WP.callVv (As := []) (st := []) vX4_119 h0.1 rfl rfl ⟨Nat.le_of_ble_eq_true rfl, Nat.le_of_ble_eq_true rfl⟩ (Nat.le_of_ble_eq_true rfl) rfl (dg tX4_readToken 51 rfl) h (fun M5 h => ?_)
        refine WP.goto (tgt := 167) (dg tX4_readToken 52 rfl) (by decide) ?_
        exact WP.vret rfl (dg tX4_readToken 81 rfl) ⟨rfl, h⟩
    · replace h := h.2 z
      refine WP.aload_n 0 (dg tX4_readToken 39 rfl) rfl rfl ?_
      refine WP.iconst (v := 0) (dg tX4_readToken 40 rfl) (by decide) ?_
      refine WP.putI fX4_29 h0.1 (dg tX4_readToken 41 rfl) (fun M3 e_M3 => ?_)
      have h := h M3 e_M3
      refine WP.goto (tgt := 167) (dg tX4_readToken 42 rfl) (by decide) ?_
      exact WP.vret rfl (dg tX4_readToken 81 rfl) ⟨rfl, h⟩
theorem sg_X4_readLetters_0 {T : Th} {M : Mm} {Q : Mm → Prop} {x0 : Nat} (h0 : isX4 T x0)
    (h : ∀ M1 : Mm, M1 = sI M x0 3 1 → vp_in (M1.1 x0 4) 200 ∧ (∀ M2 : Mm, M2 = sI M1 x0 5 (M1.1 (x0 + 1) (M1.1 x0 4).toNatClampNeg) → ∀ M3 : Mm, M3 = sI M2 x0 2 ((M2.1 x0 4) + 1) → WP T mX4_readLetters 28 [(0, .ref x0)] [] M3 (qv Q))) :
    WP T mX4_readLetters 0 [(0, .ref x0)] [] M (qv Q) := by
  refine WP.aload_n 0 (dg tX4_readLetters 0 rfl) rfl rfl ?_
  refine WP.iconst (v := 1) (dg tX4_readLetters 1 rfl) (by decide) ?_
  refine WP.putI fX4_29 h0.1 (dg tX4_readLetters 2 rfl) (fun M1 e_M1 => ?_)
  have h := h M1 e_M1
  refine WP.aload_n 0 (dg tX4_readLetters 3 rfl) rfl rfl ?_
  refine WP.aload_n 0 (dg tX4_readLetters 4 rfl) rfl rfl ?_
  refine WP.getF fX4_9 h0.1 (dg tX4_readLetters 5 rfl) ?_
  refine WP.aload_n 0 (dg tX4_readLetters 6 rfl) rfl rfl ?_
  refine WP.getI fX4_39 h0.1 (dg tX4_readLetters 7 rfl) ?_
  obtain ⟨hb14, h⟩ := h
  refine WP.iald h0.2 hb14 (dg tX4_readLetters 8 rfl) ?_
  refine WP.putI fX4_42 h0.1 (dg tX4_readLetters 9 rfl) (fun M2 e_M2 => ?_)
  have h := h M2 e_M2
  refine WP.aload_n 0 (dg tX4_readLetters 10 rfl) rfl rfl ?_
  refine WP.aload_n 0 (dg tX4_readLetters 11 rfl) rfl rfl ?_
  refine WP.getI fX4_39 h0.1 (dg tX4_readLetters 12 rfl) ?_
  refine WP.iconst (v := 1) (dg tX4_readLetters 13 rfl) (by decide) ?_
  refine WP.iadd (dg tX4_readLetters 14 rfl) ?_
  refine WP.putI fX4_19 h0.1 (dg tX4_readLetters 15 rfl) (fun M3 e_M3 => ?_)
  have h := h M3 e_M3
  exact h
theorem sg_X4_readLetters_28 {T : Th} {M : Mm} {Q : Mm → Prop} {x0 : Nat} (h0 : isX4 T x0)
    (h : ((M.1 x0 1) ≤ (M.1 x0 2) → Q M) ∧ (¬ (M.1 x0 1) ≤ (M.1 x0 2) → (200 ≤ (M.1 x0 2) → Q M) ∧ (¬ 200 ≤ (M.1 x0 2) → vp_in (M.1 x0 2) 200 ∧ (WPi T mX4_isLetter [.int (M.1 (x0 + 1) (M.1 x0 2).toNatClampNeg)] M (fun v2 M1 => (v2 = 0 → Q M1) ∧ (¬ v2 = 0 → ∀ M3 : Mm, M3 = sI M1 x0 5 0 → ∀ M4 : Mm, M4 = sI M3 x0 2 ((M3.1 x0 2) + 1) → WP T mX4_readLetters 28 [(0, .ref x0)] [] M4 (qv Q))))))) :
    WP T mX4_readLetters 28 [(0, .ref x0)] [] M (qv Q) := by
  refine WP.aload_n 0 (dg tX4_readLetters 16 rfl) rfl rfl ?_
  refine WP.getI fX4_19 h0.1 (dg tX4_readLetters 17 rfl) ?_
  refine WP.aload_n 0 (dg tX4_readLetters 18 rfl) rfl rfl ?_
  refine WP.getI fX4_15 h0.1 (dg tX4_readLetters 19 rfl) ?_
  refine WP.icmp_ge (tgt := 82) (dg tX4_readLetters 20 rfl) (by decide) (fun z => ?_) (fun z => ?_)
  · replace h := h.1 z
    exact WP.vret rfl (dg tX4_readLetters 42 rfl) ⟨rfl, h⟩
  · replace h := h.2 z
    refine WP.aload_n 0 (dg tX4_readLetters 21 rfl) rfl rfl ?_
    refine WP.getI fX4_19 h0.1 (dg tX4_readLetters 22 rfl) ?_
    refine WP.sipush (v := 200) (dg tX4_readLetters 23 rfl) (by decide) ?_
    refine WP.icmp_ge (tgt := 82) (dg tX4_readLetters 24 rfl) (by decide) (fun z => ?_) (fun z => ?_)
    · replace h := h.1 z
      exact WP.vret rfl (dg tX4_readLetters 42 rfl) ⟨rfl, h⟩
    · replace h := h.2 z
      refine WP.aload_n 0 (dg tX4_readLetters 25 rfl) rfl rfl ?_
      refine WP.getF fX4_9 h0.1 (dg tX4_readLetters 26 rfl) ?_
      refine WP.aload_n 0 (dg tX4_readLetters 27 rfl) rfl rfl ?_
      refine WP.getI fX4_19 h0.1 (dg tX4_readLetters 28 rfl) ?_
      obtain ⟨hb57, h⟩ := h
      refine WP.iald h0.2 hb57 (dg tX4_readLetters 29 rfl) ?_
      refine WP.callSi (As := [.int (M.1 (x0 + 1) (M.1 x0 2).toNatClampNeg)]) (st := []) vX4_116 rfl ⟨Nat.le_of_ble_eq_true rfl, Nat.le_of_ble_eq_true rfl⟩ (Nat.le_of_ble_eq_true rfl) rfl (dg tX4_readLetters 30 rfl) h (fun v2 M1 h => ?_)
      refine WP.if_eq (tgt := 82) (dg tX4_readLetters 31 rfl) (by decide) (fun z => ?_) (fun z => ?_)
      · replace h := h.1 z
        exact WP.vret rfl (dg tX4_readLetters 42 rfl) ⟨rfl, h⟩
      · replace h := h.2 z
        refine WP.aload_n 0 (dg tX4_readLetters 32 rfl) rfl rfl ?_
        refine WP.iconst (v := 0) (dg tX4_readLetters 33 rfl) (by decide) ?_
        refine WP.putI fX4_42 h0.1 (dg tX4_readLetters 34 rfl) (fun M3 e_M3 => ?_)
        have h := h M3 e_M3
        refine WP.aload_n 0 (dg tX4_readLetters 35 rfl) rfl rfl ?_
        refine WP.dup (dg tX4_readLetters 36 rfl) rfl ?_
        refine WP.getI fX4_19 h0.1 (dg tX4_readLetters 37 rfl) ?_
        refine WP.iconst (v := 1) (dg tX4_readLetters 38 rfl) (by decide) ?_
        refine WP.iadd (dg tX4_readLetters 39 rfl) ?_
        refine WP.putI fX4_19 h0.1 (dg tX4_readLetters 40 rfl) (fun M4 e_M4 => ?_)
        have h := h M4 e_M4
        refine WP.goto (tgt := 28) (dg tX4_readLetters 41 rfl) (by decide) ?_
        exact h
theorem sg_X4_readDigits_0 {T : Th} {M : Mm} {Q : Mm → Prop} {x0 : Nat} (h0 : isX4 T x0)
    (h : vp_in (M.1 x0 4) 200 ∧ ((¬ (M.1 (x0 + 1) (M.1 x0 4).toNatClampNeg) = 48 → ∀ M1 : Mm, M1 = sI M x0 3 2 → ∀ M2 : Mm, M2 = sI M1 x0 2 (M1.1 x0 4) → WP T mX4_readDigits 73 [(0, .ref x0)] [] M2 (qv Q)) ∧ ((M.1 (x0 + 1) (M.1 x0 4).toNatClampNeg) = 48 → ((M.1 x0 1) ≤ ((M.1 x0 4) + 1) → ∀ M1 : Mm, M1 = sI M x0 3 2 → ∀ M2 : Mm, M2 = sI M1 x0 2 (M1.1 x0 4) → WP T mX4_readDigits 73 [(0, .ref x0)] [] M2 (qv Q)) ∧ (¬ (M.1 x0 1) ≤ ((M.1 x0 4) + 1) → (200 ≤ ((M.1 x0 4) + 1) → ∀ M1 : Mm, M1 = sI M x0 3 2 → ∀ M2 : Mm, M2 = sI M1 x0 2 (M1.1 x0 4) → WP T mX4_readDigits 73 [(0, .ref x0)] [] M2 (qv Q)) ∧ (¬ 200 ≤ ((M.1 x0 4) + 1) → vp_in ((M.1 x0 4) + 1) 200 ∧ (WPi T mX4_isDigit [.int (M.1 (x0 + 1) ((M.1 x0 4) + 1).toNatClampNeg)] M (fun v2 M1 => (v2 = 0 → ∀ M3 : Mm, M3 = sI M1 x0 3 2 → ∀ M4 : Mm, M4 = sI M3 x0 2 (M3.1 x0 4) → WP T mX4_readDigits 73 [(0, .ref x0)] [] M4 (qv Q)) ∧ (¬ v2 = 0 → ∀ M3 : Mm, M3 = sI M1 x0 3 4 → ∀ M4 : Mm, M4 = sI M3 x0 2 (M3.1 x0 4) → WP T mX4_readDigits 73 [(0, .ref x0)] [] M4 (qv Q))))))))) :
    WP T mX4_readDigits 0 [(0, .ref x0)] [] M (qv Q) := by
  refine WP.aload_n 0 (dg tX4_readDigits 0 rfl) rfl rfl ?_
  refine WP.aload_n 0 (dg tX4_readDigits 1 rfl) rfl rfl ?_
  refine WP.getF fX4_9 h0.1 (dg tX4_readDigits 2 rfl) ?_
  refine WP.aload_n 0 (dg tX4_readDigits 3 rfl) rfl rfl ?_
  refine WP.getI fX4_39 h0.1 (dg tX4_readDigits 4 rfl) ?_
  obtain ⟨hb9, h⟩ := h
  refine WP.iald h0.2 hb9 (dg tX4_readDigits 5 rfl) ?_
  refine WP.bipush (v := 48) (dg tX4_readDigits 6 rfl) (by decide) ?_
  refine WP.icmp_ne (tgt := 61) (dg tX4_readDigits 7 rfl) (by decide) (fun z => ?_) (fun z => ?_)
  · replace h := h.1 z
    refine WP.iconst (v := 2) (dg tX4_readDigits 32 rfl) (by decide) ?_
    refine WP.putI fX4_29 h0.1 (dg tX4_readDigits 33 rfl) (fun M1 e_M1 => ?_)
    have h := h M1 e_M1
    refine WP.aload_n 0 (dg tX4_readDigits 34 rfl) rfl rfl ?_
    refine WP.aload_n 0 (dg tX4_readDigits 35 rfl) rfl rfl ?_
    refine WP.getI fX4_39 h0.1 (dg tX4_readDigits 36 rfl) ?_
    refine WP.putI fX4_19 h0.1 (dg tX4_readDigits 37 rfl) (fun M2 e_M2 => ?_)
    have h := h M2 e_M2
    exact h
  · replace h := h.2 z
    refine WP.aload_n 0 (dg tX4_readDigits 8 rfl) rfl rfl ?_
    refine WP.getI fX4_39 h0.1 (dg tX4_readDigits 9 rfl) ?_
    refine WP.iconst (v := 1) (dg tX4_readDigits 10 rfl) (by decide) ?_
    refine WP.iadd (dg tX4_readDigits 11 rfl) ?_
    refine WP.aload_n 0 (dg tX4_readDigits 12 rfl) rfl rfl ?_
    refine WP.getI fX4_15 h0.1 (dg tX4_readDigits 13 rfl) ?_
    refine WP.icmp_ge (tgt := 61) (dg tX4_readDigits 14 rfl) (by decide) (fun z => ?_) (fun z => ?_)
    · replace h := h.1 z
      refine WP.iconst (v := 2) (dg tX4_readDigits 32 rfl) (by decide) ?_
      refine WP.putI fX4_29 h0.1 (dg tX4_readDigits 33 rfl) (fun M1 e_M1 => ?_)
      have h := h M1 e_M1
      refine WP.aload_n 0 (dg tX4_readDigits 34 rfl) rfl rfl ?_
      refine WP.aload_n 0 (dg tX4_readDigits 35 rfl) rfl rfl ?_
      refine WP.getI fX4_39 h0.1 (dg tX4_readDigits 36 rfl) ?_
      refine WP.putI fX4_19 h0.1 (dg tX4_readDigits 37 rfl) (fun M2 e_M2 => ?_)
      have h := h M2 e_M2
      exact h
    · replace h := h.2 z
      refine WP.aload_n 0 (dg tX4_readDigits 15 rfl) rfl rfl ?_
      refine WP.getI fX4_39 h0.1 (dg tX4_readDigits 16 rfl) ?_
      refine WP.iconst (v := 1) (dg tX4_readDigits 17 rfl) (by decide) ?_
      refine WP.iadd (dg tX4_readDigits 18 rfl) ?_
      refine WP.sipush (v := 200) (dg tX4_readDigits 19 rfl) (by decide) ?_
      refine WP.icmp_ge (tgt := 61) (dg tX4_readDigits 20 rfl) (by decide) (fun z => ?_) (fun z => ?_)
      · replace h := h.1 z
        refine WP.iconst (v := 2) (dg tX4_readDigits 32 rfl) (by decide) ?_
        refine WP.putI fX4_29 h0.1 (dg tX4_readDigits 33 rfl) (fun M1 e_M1 => ?_)
        have h := h M1 e_M1
        refine WP.aload_n 0 (dg tX4_readDigits 34 rfl) rfl rfl ?_
        refine WP.aload_n 0 (dg tX4_readDigits 35 rfl) rfl rfl ?_
        refine WP.getI fX4_39 h0.1 (dg tX4_readDigits 36 rfl) ?_
        refine WP.putI fX4_19 h0.1 (dg tX4_readDigits 37 rfl) (fun M2 e_M2 => ?_)
        have h := h M2 e_M2
        exact h
      · replace h := h.2 z
        refine WP.aload_n 0 (dg tX4_readDigits 21 rfl) rfl rfl ?_
        refine WP.getF fX4_9 h0.1 (dg tX4_readDigits 22 rfl) ?_
        refine WP.aload_n 0 (dg tX4_readDigits 23 rfl) rfl rfl ?_
        refine WP.getI fX4_39 h0.1 (dg tX4_readDigits 24 rfl) ?_
        refine WP.iconst (v := 1) (dg tX4_readDigits 25 rfl) (by decide) ?_
        refine WP.iadd (dg tX4_readDigits 26 rfl) ?_
        obtain ⟨hb50, h⟩ := h
        refine WP.iald h0.2 hb50 (dg tX4_readDigits 27 rfl) ?_
        refine WP.callSi (As := [.int (M.1 (x0 + 1) ((M.1 x0 4) + 1).toNatClampNeg)]) (st := [.ref x0]) vX4_122 rfl ⟨Nat.le_of_ble_eq_true rfl, Nat.le_of_ble_eq_true rfl⟩ (Nat.le_of_ble_eq_true rfl) rfl (dg tX4_readDigits 28 rfl) h (fun v2 M1 h => ?_)
        refine WP.if_eq (tgt := 61) (dg tX4_readDigits 29 rfl) (by decide) (fun z => ?_) (fun z => ?_)
        · replace h := h.1 z
          refine WP.iconst (v := 2) (dg tX4_readDigits 32 rfl) (by decide) ?_
          refine WP.putI fX4_29 h0.1 (dg tX4_readDigits 33 rfl) (fun M3 e_M3 => ?_)
          have h := h M3 e_M3
          refine WP.aload_n 0 (dg tX4_readDigits 34 rfl) rfl rfl ?_
          refine WP.aload_n 0 (dg tX4_readDigits 35 rfl) rfl rfl ?_
          refine WP.getI fX4_39 h0.1 (dg tX4_readDigits 36 rfl) ?_
          refine WP.putI fX4_19 h0.1 (dg tX4_readDigits 37 rfl) (fun M4 e_M4 => ?_)
          have h := h M4 e_M4
          exact h
        · replace h := h.2 z
          refine WP.iconst (v := 4) (dg tX4_readDigits 30 rfl) (by decide) ?_
          refine WP.goto (tgt := 62) (dg tX4_readDigits 31 rfl) (by decide) ?_
          refine WP.putI fX4_29 h0.1 (dg tX4_readDigits 33 rfl) (fun M3 e_M3 => ?_)
          have h := h M3 e_M3
          refine WP.aload_n 0 (dg tX4_readDigits 34 rfl) rfl rfl ?_
          refine WP.aload_n 0 (dg tX4_readDigits 35 rfl) rfl rfl ?_
          refine WP.getI fX4_39 h0.1 (dg tX4_readDigits 36 rfl) ?_
          refine WP.putI fX4_19 h0.1 (dg tX4_readDigits 37 rfl) (fun M4 e_M4 => ?_)
          have h := h M4 e_M4
          exact h
theorem sg_X4_readDigits_73 {T : Th} {M : Mm} {Q : Mm → Prop} {x0 : Nat} (h0 : isX4 T x0)
    (h : ((M.1 x0 1) ≤ (M.1 x0 2) → Q M) ∧ (¬ (M.1 x0 1) ≤ (M.1 x0 2) → (200 ≤ (M.1 x0 2) → Q M) ∧ (¬ 200 ≤ (M.1 x0 2) → vp_in (M.1 x0 2) 200 ∧ (WPi T mX4_isDigit [.int (M.1 (x0 + 1) (M.1 x0 2).toNatClampNeg)] M (fun v2 M1 => (v2 = 0 → Q M1) ∧ (¬ v2 = 0 → vp_in (M1.1 x0 2) 200 ∧ (∀ M3 : Mm, M3 = sI M1 x0 5 (if ((((M1.1 x0 5) * 10) + (M1.1 (x0 + 1) (M1.1 x0 2).toNatClampNeg)) - 48) < 100 then ((((M1.1 x0 5) * 10) + (M1.1 (x0 + 1) (M1.1 x0 2).toNatClampNeg)) - 48) else 100) → ∀ M4 : Mm, M4 = sI M3 x0 2 ((M3.1 x0 2) + 1) → WP T mX4_readDigits 73 [(0, .ref x0)] [] M4 (qv Q)))))))) :
    WP T mX4_readDigits 73 [(0, .ref x0)] [] M (qv Q) := by
  refine WP.aload_n 0 (dg tX4_readDigits 38 rfl) rfl rfl ?_
  refine WP.getI fX4_19 h0.1 (dg tX4_readDigits 39 rfl) ?_
  refine WP.aload_n 0 (dg tX4_readDigits 40 rfl) rfl rfl ?_
  refine WP.getI fX4_15 h0.1 (dg tX4_readDigits 41 rfl) ?_
  refine WP.icmp_ge (tgt := 151) (dg tX4_readDigits 42 rfl) (by decide) (fun z => ?_) (fun z => ?_)
  · replace h := h.1 z
    exact WP.vret rfl (dg tX4_readDigits 77 rfl) ⟨rfl, h⟩
  · replace h := h.2 z
    refine WP.aload_n 0 (dg tX4_readDigits 43 rfl) rfl rfl ?_
    refine WP.getI fX4_19 h0.1 (dg tX4_readDigits 44 rfl) ?_
    refine WP.sipush (v := 200) (dg tX4_readDigits 45 rfl) (by decide) ?_
    refine WP.icmp_ge (tgt := 151) (dg tX4_readDigits 46 rfl) (by decide) (fun z => ?_) (fun z => ?_)
    · replace h := h.1 z
      exact WP.vret rfl (dg tX4_readDigits 77 rfl) ⟨rfl, h⟩
    · replace h := h.2 z
      refine WP.aload_n 0 (dg tX4_readDigits 47 rfl) rfl rfl ?_
      refine WP.getF fX4_9 h0.1 (dg tX4_readDigits 48 rfl) ?_
      refine WP.aload_n 0 (dg tX4_readDigits 49 rfl) rfl rfl ?_
      refine WP.getI fX4_19 h0.1 (dg tX4_readDigits 50 rfl) ?_
      obtain ⟨hb102, h⟩ := h
      refine WP.iald h0.2 hb102 (dg tX4_readDigits 51 rfl) ?_
      refine WP.callSi (As := [.int (M.1 (x0 + 1) (M.1 x0 2).toNatClampNeg)]) (st := []) vX4_122 rfl ⟨Nat.le_of_ble_eq_true rfl, Nat.le_of_ble_eq_true rfl⟩ (Nat.le_of_ble_eq_true rfl) rfl (dg tX4_readDigits 52 rfl) h (fun v2 M1 h => ?_)
      refine WP.if_eq (tgt := 151) (dg tX4_readDigits 53 rfl) (by decide) (fun z => ?_) (fun z => ?_)
      · replace h := h.1 z
        exact WP.vret rfl (dg tX4_readDigits 77 rfl) ⟨rfl, h⟩
      · replace h := h.2 z
        refine WP.aload_n 0 (dg tX4_readDigits 54 rfl) rfl rfl ?_
        refine WP.bipush (v := 100) (dg tX4_readDigits 55 rfl) (by decide) ?_
        refine WP.aload_n 0 (dg tX4_readDigits 56 rfl) rfl rfl ?_
        refine WP.getI fX4_42 h0.1 (dg tX4_readDigits 57 rfl) ?_
        refine WP.bipush (v := 10) (dg tX4_readDigits 58 rfl) (by decide) ?_
        refine WP.imul (dg tX4_readDigits 59 rfl) ?_
        refine WP.aload_n 0 (dg tX4_readDigits 60 rfl) rfl rfl ?_
        refine WP.getF fX4_9 h0.1 (dg tX4_readDigits 61 rfl) ?_
        refine WP.aload_n 0 (dg tX4_readDigits 62 rfl) rfl rfl ?_
        refine WP.getI fX4_19 h0.1 (dg tX4_readDigits 63 rfl) ?_
        obtain ⟨hb127, h⟩ := h
        refine WP.iald h0.2 hb127 (dg tX4_readDigits 64 rfl) ?_
        refine WP.iadd (dg tX4_readDigits 65 rfl) ?_
        refine WP.bipush (v := 48) (dg tX4_readDigits 66 rfl) (by decide) ?_
        refine WP.isub (dg tX4_readDigits 67 rfl) ?_
        refine WP.mmin vX4_128 (by decide) (Nat.le_of_ble_eq_true rfl) (dg tX4_readDigits 68 rfl) ?_
        refine WP.putI fX4_42 h0.1 (dg tX4_readDigits 69 rfl) (fun M3 e_M3 => ?_)
        have h := h M3 e_M3
        refine WP.aload_n 0 (dg tX4_readDigits 70 rfl) rfl rfl ?_
        refine WP.dup (dg tX4_readDigits 71 rfl) rfl ?_
        refine WP.getI fX4_19 h0.1 (dg tX4_readDigits 72 rfl) ?_
        refine WP.iconst (v := 1) (dg tX4_readDigits 73 rfl) (by decide) ?_
        refine WP.iadd (dg tX4_readDigits 74 rfl) ?_
        refine WP.putI fX4_19 h0.1 (dg tX4_readDigits 75 rfl) (fun M4 e_M4 => ?_)
        have h := h M4 e_M4
        refine WP.goto (tgt := 73) (dg tX4_readDigits 76 rfl) (by decide) ?_
        exact h
theorem sg_X4_isLetter_0 {T : Th} {M : Mm} {Q : Int32 → Mm → Prop} {x0 : Int32} 
    (h : (x0 < 97 → Q 0 M) ∧ (¬ x0 < 97 → (122 < x0 → Q 0 M) ∧ (¬ 122 < x0 → Q 1 M))) :
    WP T mX4_isLetter 0 [(0, .int x0)] [] M (qi Q) := by
  refine WP.iload_n 0 (dg tX4_isLetter 0 rfl) rfl rfl ?_
  refine WP.bipush (v := 97) (dg tX4_isLetter 1 rfl) (by decide) ?_
  refine WP.icmp_lt (tgt := 16) (dg tX4_isLetter 2 rfl) (by decide) (fun z => ?_) (fun z => ?_)
  · replace h := h.1 z
    refine WP.iconst (v := 0) (dg tX4_isLetter 8 rfl) (by decide) ?_
    exact WP.zret rfl (by decide) (dg tX4_isLetter 9 rfl) ⟨_, rfl, h⟩
  · replace h := h.2 z
    refine WP.iload_n 0 (dg tX4_isLetter 3 rfl) rfl rfl ?_
    refine WP.bipush (v := 122) (dg tX4_isLetter 4 rfl) (by decide) ?_
    refine WP.icmp_gt (tgt := 16) (dg tX4_isLetter 5 rfl) (by decide) (fun z => ?_) (fun z => ?_)
    · replace h := h.1 z
      refine WP.iconst (v := 0) (dg tX4_isLetter 8 rfl) (by decide) ?_
      exact WP.zret rfl (by decide) (dg tX4_isLetter 9 rfl) ⟨_, rfl, h⟩
    · replace h := h.2 z
      refine WP.iconst (v := 1) (dg tX4_isLetter 6 rfl) (by decide) ?_
      refine WP.goto (tgt := 17) (dg tX4_isLetter 7 rfl) (by decide) ?_
      exact WP.zret rfl (by decide) (dg tX4_isLetter 9 rfl) ⟨_, rfl, h⟩
theorem sg_X4_isDigit_0 {T : Th} {M : Mm} {Q : Int32 → Mm → Prop} {x0 : Int32} 
    (h : (x0 < 48 → Q 0 M) ∧ (¬ x0 < 48 → (57 < x0 → Q 0 M) ∧ (¬ 57 < x0 → Q 1 M))) :
    WP T mX4_isDigit 0 [(0, .int x0)] [] M (qi Q) := by
  refine WP.iload_n 0 (dg tX4_isDigit 0 rfl) rfl rfl ?_
  refine WP.bipush (v := 48) (dg tX4_isDigit 1 rfl) (by decide) ?_
  refine WP.icmp_lt (tgt := 16) (dg tX4_isDigit 2 rfl) (by decide) (fun z => ?_) (fun z => ?_)
  · replace h := h.1 z
    refine WP.iconst (v := 0) (dg tX4_isDigit 8 rfl) (by decide) ?_
    exact WP.zret rfl (by decide) (dg tX4_isDigit 9 rfl) ⟨_, rfl, h⟩
  · replace h := h.2 z
    refine WP.iload_n 0 (dg tX4_isDigit 3 rfl) rfl rfl ?_
    refine WP.bipush (v := 57) (dg tX4_isDigit 4 rfl) (by decide) ?_
    refine WP.icmp_gt (tgt := 16) (dg tX4_isDigit 5 rfl) (by decide) (fun z => ?_) (fun z => ?_)
    · replace h := h.1 z
      refine WP.iconst (v := 0) (dg tX4_isDigit 8 rfl) (by decide) ?_
      exact WP.zret rfl (by decide) (dg tX4_isDigit 9 rfl) ⟨_, rfl, h⟩
    · replace h := h.2 z
      refine WP.iconst (v := 1) (dg tX4_isDigit 6 rfl) (by decide) ?_
      refine WP.goto (tgt := 17) (dg tX4_isDigit 7 rfl) (by decide) ?_
      exact WP.zret rfl (by decide) (dg tX4_isDigit 9 rfl) ⟨_, rfl, h⟩
