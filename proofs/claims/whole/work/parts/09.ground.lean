theorem c_isCaught {T : Th} {M : Mm} {m : Nat} {w : Int32} {Q : Int32 → Mm → Prop} (h0 : isX2 T m) (hq : Q (if ((M.1 m 1 >>> (w &&& 31)) &&& 1) = 1 then 1 else 0) M) : WPi T mX2_isCaught [.ref m, .int w] M Q := by
  refine WPM.of (by decide) rfl (Nat.le_of_ble_eq_true rfl) (sg_X2_isCaught_0 h0 ?_)
  grind
theorem c_hasWagon {T : Th} {M : Mm} {g : Nat} {G : Blk} {w : Int32} {Q : Int32 → Mm → Prop} (h0 : isX1 T g) (hG : GrC M g G) (hq : Q (b2i (hasWg G w)) M) : WPi T mX1_hasWagon [.ref g, .int w] M Q := by
  refine WPM.of (by decide) rfl (Nat.le_of_ble_eq_true rfl) (sg_X1_hasWagon_0 h0 ?_)
  have g0 := hG 0 (by decide)
  rw [Nat.add_zero] at g0
  rw [g0]
  unfold b2i hasWg at hq
  grind
theorem c_hasPlace {T : Th} {M : Mm} {g : Nat} {G : Blk} {w : Int32} {Q : Int32 → Mm → Prop} (h0 : isX1 T g) (hG : GrC M g G) (hq : Q (b2i (hasPl G w)) M) : WPi T mX1_hasPlace [.ref g, .int w] M Q := by
  refine WPM.of (by decide) rfl (Nat.le_of_ble_eq_true rfl) (sg_X1_hasPlace_0 h0 ?_)
  have g0 := hG 0 (by decide)
  rw [Nat.add_zero] at g0
  rw [g0]
  unfold b2i hasPl at hq
  grind
theorem c_placeOf {T : Th} {M : Mm} {g : Nat} {G : Blk} {y : Int32} {Q : Int32 → Mm → Prop} (h0 : isX1 T g) (hG : GrC M g G) (hq : Q (plc G y) M) : WPi T mX1_placeOf [.ref g, .int y] M Q := by
  refine WPM.of (by decide) rfl (Nat.le_of_ble_eq_true rfl) (sg_X1_placeOf_0 h0 ?_)
  have g0 := hG 0 (by decide)
  rw [Nat.add_zero] at g0
  rw [g0]
  unfold plc at hq
  grind
theorem c_sunWay {T : Th} {M : Mm} {g : Nat} {G : Blk} {t ld : Int32} {Q : Int32 → Mm → Prop} (h0 : isX1 T g) (hG : GrC M g G) (hq : Q (sunW G t ld) M) : WPi T mX1_sunWay [.ref g, .int t, .int ld] M Q := by
  refine WPM.of (by decide) rfl (Nat.le_of_ble_eq_true rfl) (sg_X1_sunWay_0 h0 ?_)
  have g0 := hG 0 (by decide)
  rw [Nat.add_zero] at g0
  rw [g0]
  unfold sunW at hq
  grind
theorem c_minutesFor {T : Th} {M : Mm} {g : Nat} {G : Blk} {w y : Int32} {Q : Int32 → Mm → Prop} (h0 : isX1 T g) (hG : GrC M g G) (hq : Q (mins G w y) M) : WPi T mX1_minutesFor [.ref g, .int w, .int y] M Q := by
  refine WPM.of (by decide) rfl (Nat.le_of_ble_eq_true rfl) (sg_X1_minutesFor_0 h0 ?_)
  have g1 := hG 1 (by decide)
  have g2 := hG 2 (by decide)
  have key : ∀ s0, s0 = (if hasPl G (plc G y) then G 1 (plc G y).toNatClampNeg else 1) → WP T mX1_minutesFor 24 [(0, .ref g), (1, .int w)] [.int s0] M (qi Q) := by
    intro s0 hs0
    refine sg_X1_minutesFor_24 h0 (c_hasWagon h0 hG ?_)
    rw [g2]
    unfold mins at hq
    rw [← hs0] at hq
    unfold b2i
    unfold hasWg at hq ⊢
    have hv : 0 ≤ w → w < 5 → vp_in w 5 := fun a b => vp_in_iff.mpr ⟨by have := Int32.le_iff_toInt_le.mp a; simpa using this, by have := Int32.lt_iff_toInt_lt.mp b; simpa using this⟩
    grind
  refine c_placeOf h0 hG (c_hasPlace h0 hG ?_)
  rw [g1]
  have hv : hasPl G (plc G y) = true → vp_in (plc G y) 12 := fun a => by
    unfold hasPl at a
    have a := of_decide_eq_true a
    exact vp_in_iff.mpr ⟨by have := Int32.le_iff_toInt_le.mp a.1; simpa using this, by have := Int32.lt_iff_toInt_lt.mp a.2.2; simpa using this⟩
  unfold b2i
  refine ⟨fun z => key _ ?_, fun z => ⟨hv ?_, key _ ?_⟩⟩
  · by_cases hc : hasPl G (plc G y) = true
    · simp [hc] at z
    · simp [hc]
  · by_cases hc : hasPl G (plc G y) = true
    · exact hc
    · simp [hc] at z
  · by_cases hc : hasPl G (plc G y) = true
    · simp [hc]
    · simp [hc] at z
theorem l_isTaken {T : Th} {M : Mm} {g m : Nat} {G B : Blk} {r y : Int32} {Q : Int32 → Mm → Prop} (h0 : isX1 T g) (h1 : isX2 T m) (hG : GrC M g G) (hB : GrC M m B) : ∀ (n i : Nat), i + n = nW G → Q (b2i (anyF (fun w => decide (B 1 w = y ∧ B 2 w = r)) i n)) M → WP T mX1_isTaken 3 [(0, .ref g), (1, .ref m), (2, .int r), (3, .int y), (4, .int (nI i))] [] M (qi Q) := by
  have h5 := nW_le G
  intro n
  induction n with
  | zero =>
    intro i hi hq
    refine sg_X1_isTaken_3 h0 h1 ?_
    have hx := nW_out (G := G) (i := i) (by omega) (by omega)
    rw [hG.z]
    simp only [anyF, b2i] at hq
    grind
  | succ n ih =>
    intro i hi hq
    refine sg_X1_isTaken_3 h0 h1 ?_
    obtain ⟨e1, e2, e3, e4, e5⟩ := nW_in (G := G) (i := i) (by omega)
    have ih := ih (i + 1) (by omega)
    rw [hG.z, hB 1 (by decide), hB 2 (by decide)]
    simp only [anyF] at hq
    simp only [e1, e2, e3, e4, e5, not_false_eq_true, false_implies, true_implies, true_and, forall_eq]
    refine ⟨fun z => ih ?_, fun z => ⟨fun z2 => ih ?_, fun z2 => ?_⟩⟩
    · simpa [z] using hq
    · simpa [z, z2] using hq
    · simpa [z, z2, b2i] using hq
theorem c_isTaken {T : Th} {M : Mm} {g m : Nat} {G B : Blk} {r y : Int32} {Q : Int32 → Mm → Prop} (h0 : isX1 T g) (h1 : isX2 T m) (hG : GrC M g G) (hB : GrC M m B) (hq : Q (b2i (takenB G B r y)) M) : WPi T mX1_isTaken [.ref g, .ref m, .int r, .int y] M Q :=
  WPM.of (by decide) rfl (Nat.le_of_ble_eq_true rfl) (sg_X1_isTaken_0 h0 h1 (l_isTaken h0 h1 hG hB (nW G) 0 (by omega) hq))
theorem l_isBarred {T : Th} {M : Mm} {g m : Nat} {G B : Blk} {r y x4 : Int32} {Q : Int32 → Mm → Prop} (h0 : isX1 T g) (h1 : isX2 T m) (hG : GrC M g G) (hB : GrC M m B) (hx4 : x4 = if plc G y = G 0 4 then 1 else 0) : ∀ (n i : Nat), i + n = nW G → Q (b2i (anyF (fun w => decide (B 1 w = y ∧ (plc G y = G 0 4 ∨ B 2 w = r))) i n)) M → WP T mX1_isBarred 22 [(0, .ref g), (1, .ref m), (2, .int r), (3, .int y), (4, .int x4), (5, .int (nI i))] [] M (qi Q) := by
  have h5 := nW_le G
  intro n
  induction n with
  | zero =>
    intro i hi hq
    refine sg_X1_isBarred_22 h0 h1 ?_
    have hx := nW_out (G := G) (i := i) (by omega) (by omega)
    rw [hG.z]
    simp only [anyF, b2i] at hq
    grind
  | succ n ih =>
    intro i hi hq
    refine sg_X1_isBarred_22 h0 h1 ?_
    obtain ⟨e1, e2, e3, e4, e5⟩ := nW_in (G := G) (i := i) (by omega)
    have ih := ih (i + 1) (by omega)
    rw [hG.z, hB 1 (by decide), hB 2 (by decide)]
    simp only [anyF] at hq
    simp only [e1, e2, e3, e4, e5, not_false_eq_true, false_implies, true_implies, true_and, forall_eq]
    have hp : x4 = 0 ↔ ¬ plc G y = G 0 4 := by rw [hx4]; split <;> simp [*]
    refine ⟨fun z => ih ?_, fun z => ⟨fun z2 => ?_, fun z2 => ⟨fun z3 => ih ?_, fun z3 => ?_⟩⟩⟩
    · simpa [z] using hq
    · have : plc G y = G 0 4 := by rw [hp] at z2; simpa using z2
      simpa [z, this, b2i] using hq
    · rw [hp] at z2
      simpa [z, z2, z3] using hq
    · rw [hp] at z2
      simpa [z, z2, z3, b2i] using hq
theorem c_isBarred {T : Th} {M : Mm} {g m : Nat} {G B : Blk} {r y : Int32} {Q : Int32 → Mm → Prop} (h0 : isX1 T g) (h1 : isX2 T m) (hG : GrC M g G) (hB : GrC M m B) (hq : Q (b2i (barB G B r y)) M) : WPi T mX1_isBarred [.ref g, .ref m, .int r, .int y] M Q := by
  refine WPM.of (by decide) rfl (Nat.le_of_ble_eq_true rfl) (sg_X1_isBarred_0 h0 h1 (c_placeOf h0 hG ?_))
  rw [hG.z]
  refine ⟨fun z => l_isBarred h0 h1 hG hB ?_ (nW G) 0 (by omega) hq, fun z => l_isBarred h0 h1 hG hB ?_ (nW G) 0 (by omega) hq⟩
  · rw [if_neg z]
  · rw [if_pos z]
theorem l_foremost {T : Th} {M : Mm} {g m : Nat} {G B : Blk} {gone : Int32} {Q : Int32 → Mm → Prop} (h0 : isX1 T g) (h1 : isX2 T m) (hG : GrC M g G) (hB : GrC M m B) : ∀ (n i : Nat) (b : Int32), i + n = nW G → (b = -1 ∨ ∃ k, k < 5 ∧ b = nI k) → Q (foldF (foreS B gone) i n b) M → WP T mX1_foremost 5 [(0, .ref g), (1, .ref m), (2, .int gone), (3, .int b), (4, .int (nI i))] [] M (qi Q) := by
  have h5 := nW_le G
  intro n
  induction n with
  | zero =>
    intro i b hi hb hq
    refine sg_X1_foremost_5 h0 h1 ?_
    have hx := nW_out (G := G) (i := i) (by omega) (by omega)
    rw [hG.z]
    simp only [foldF] at hq
    grind
  | succ n ih =>
    intro i b hi hb hq
    refine sg_X1_foremost_5 h0 h1 ?_
    obtain ⟨e1, e2, e3, e4, e5⟩ := nW_in (G := G) (i := i) (by omega)
    have ih := ih (i + 1)
    rw [hG.z, hB 1 (by decide)]
    simp only [foldF] at hq
    have hv : ¬ b = -1 → vp_in b 5 := fun z => by
      rcases hb with hb | ⟨k, hk, hb⟩
      · exact absurd hb z
      · rw [hb]; exact vp_nI hk (by decide)
    simp only [e1, e2, e3, e4, e5, not_false_eq_true, false_implies, true_implies, true_and, forall_eq]
    refine ⟨fun z => ih b (by omega) hb ?_, fun z => ⟨fun z2 => ih (nI i) (by omega) (Or.inr ⟨i, by omega, rfl⟩) ?_, fun z2 => ⟨hv z2, fun z3 => ih b (by omega) hb ?_, fun z3 => ih (nI i) (by omega) (Or.inr ⟨i, by omega, rfl⟩) ?_⟩⟩⟩
    · rw [show foreS B gone b i = b from if_neg (fun q => z q.1)] at hq; exact hq
    · rw [show foreS B gone b i = nI i from if_pos ⟨z, Or.inl z2⟩] at hq; exact hq
    · rw [show foreS B gone b i = b from if_neg (fun q => q.2.elim z2 (fun q => q z3))] at hq; exact hq
    · rw [show foreS B gone b i = nI i from if_pos ⟨z, Or.inr z3⟩] at hq; exact hq
theorem c_foremost {T : Th} {M : Mm} {g m : Nat} {G B : Blk} {gone : Int32} {Q : Int32 → Mm → Prop} (h0 : isX1 T g) (h1 : isX2 T m) (hG : GrC M g G) (hB : GrC M m B) (hq : Q (foreB G B gone) M) : WPi T mX1_foremost [.ref g, .ref m, .int gone] M Q :=
  WPM.of (by decide) rfl (Nat.le_of_ble_eq_true rfl) (sg_X1_foremost_0 h0 h1 (l_foremost h0 h1 hG hB (nW G) 0 (-1) (by omega) (Or.inl rfl) hq))
theorem c_goOn {T : Th} {M : Mm} {g m w : Nat} {G B : Blk} {Q : Int32 → Mm → Prop} (h0 : isX1 T g) (h1 : isX2 T m) (hG : GrC M g G) (hd : g + 6 ≤ m ∨ m + 6 ≤ g) (hw : w < 5) (hq : Q (goB G B w).2 (wB M m 6 (goB G B w).1)) : WPi T mX1_goOn [.ref g, .ref m, .int (nI w)] (wB M m 6 B) Q := by
  refine WPM.of (by decide) rfl (Nat.le_of_ble_eq_true rfl) (sg_X1_goOn_0 h0 h1 (c_isCaught h1 ?_))
  have e3 : (nI w).toNatClampNeg = w := cl_nI (by omega)
  have e4 : vp_in (nI w) 5 := vp_nI hw (by decide)
  simp only [e3, e4, w6_0, w6_1, w6_2, w6_3, w6_4, w6_5, true_and, forall_eq, s6_3, s6_4, s6_5]
  unfold goB bget at hq
  by_cases hc : ((B 0 1 >>> (nI w &&& 31)) &&& 1) = 1
  · simp only [hc, decide_true, if_true] at hq ⊢
    refine ⟨fun z => absurd z (by decide), fun _ => hq⟩
  · simp only [hc, decide_false, if_false, Bool.false_eq_true] at hq ⊢
    refine ⟨fun _ => ⟨fun z => ⟨fun z2 => ?_, fun z2 => ?_⟩, fun z => ?_⟩, fun z => absurd trivial z⟩
    · have z' : ¬ 0 < B 4 w := Int32.not_lt.mpr z
      have hl : (ub B 3 w (if 0 < B 3 w - 1 then B 3 w - 1 else 0)) 3 w = decL (B 3 w) := ub_s _ _ _ _
      have z2' : ¬ 0 < decL (B 3 w) := by rw [← hl]; exact Int32.not_lt.mpr z2
      have e1 : (ub B 3 w (if 0 < B 3 w - 1 then B 3 w - 1 else 0)) 1 w = B 1 w := ub_n _ _ (by omega)
      have e2 : (ub B 3 w (if 0 < B 3 w - 1 then B 3 w - 1 else 0)) 2 w = B 2 w := ub_n _ _ (by omega)
      rw [if_neg z', if_neg z2'] at hq
      rw [e1, e2]
      refine c_isBarred h0 h1 (hG.out hd) GrC.own ?_
      have hb : barB G (ub B 3 w (if 0 < B 3 w - 1 then B 3 w - 1 else 0)) (B 2 w) (B 1 w + 1) = barB G B (B 2 w) (B 1 w + 1) := by
        unfold barB
        refine anyF_cong _ _ (fun v _ _ => ?_)
        rw [ub_n _ _ (by omega), ub_n _ _ (by omega)]
      rw [hb]
      by_cases hbar : barB G B (B 2 w) (B 1 w + 1) = true
      · simp only [hbar, if_true, b2i] at hq ⊢
        exact ⟨fun z => absurd z (by decide), fun _ => hq⟩
      · simp only [hbar, b2i, Bool.false_eq_true, if_false] at hq ⊢
        refine ⟨fun _ => ?_, fun z => absurd trivial z⟩
        rw [s6_1]
        refine c_minutesFor h0 (hG.out hd) ?_
        rw [s6_3]
        exact hq
    · have z' : ¬ 0 < B 4 w := Int32.not_lt.mpr z
      have hl : (ub B 3 w (if 0 < B 3 w - 1 then B 3 w - 1 else 0)) 3 w = decL (B 3 w) := ub_s _ _ _ _
      have z2' : 0 < decL (B 3 w) := by rw [← hl]; exact Int32.not_le.mp z2
      rw [if_neg z', if_pos z2'] at hq
      exact hq
    · have z' : 0 < B 4 w := Int32.not_le.mp z
      rw [if_pos z'] at hq
      rw [show ub B 4 w (B 4 w - 1) 5 w = B 5 w from ub_n _ _ (by omega)]
      exact hq
theorem l_catchLate {T : Th} {M : Mm} {g m : Nat} {G : Blk} {y : Int32} {Q : Mm → Prop} (h0 : isX1 T g) (h1 : isX2 T m) (hG : GrC M g G) (hd : g + 6 ≤ m ∨ m + 6 ≤ g) : ∀ (n i : Nat) (B : Blk), i + n = nW G → Q (wB M m 6 (foldF (catchS y) i n B)) → WP T mX1_catchLate 15 [(0, .ref g), (1, .ref m), (2, .int y), (3, .int (nI i))] [] (wB M m 6 B) (qv Q) := by
  have h5 := nW_le G
  intro n
  induction n with
  | zero =>
    intro i B hi hq
    refine sg_X1_catchLate_15 h0 h1 ?_
    have hx := nW_out (G := G) (i := i) (by omega) (by omega)
    rw [(hG.out hd).z]
    simp only [foldF] at hq
    grind
  | succ n ih =>
    intro i B hi hq
    refine sg_X1_catchLate_15 h0 h1 ?_
    obtain ⟨e1, e2, e3, e4, e5⟩ := nW_in (G := G) (i := i) (by omega)
    have ih := ih (i + 1)
    rw [(hG.out hd).z]
    simp only [foldF] at hq
    simp only [e1, e2, e3, e4, e5, not_false_eq_true, false_implies, true_implies, true_and, forall_eq, w6_0, w6_1, s6_0]
    refine ⟨fun z => ih _ (by omega) ?_, fun z => ih _ (by omega) ?_⟩
    · rw [show catchS y B i = B from if_neg (Int32.not_le.mpr z)] at hq; exact hq
    · rw [show catchS y B i = _ from if_pos (Int32.not_lt.mp z)] at hq; exact hq
theorem c_catchLate {T : Th} {M : Mm} {g m : Nat} {G B : Blk} {Q : Mm → Prop} (h0 : isX1 T g) (h1 : isX2 T m) (hG : GrC M g G) (hd : g + 6 ≤ m ∨ m + 6 ≤ g) (hq : Q (wB M m 6 (catchB G B))) : WPv T mX1_catchLate [.ref g, .ref m] (wB M m 6 B) Q := by
  refine WPM.of (by decide) rfl (Nat.le_of_ble_eq_true rfl) (sg_X1_catchLate_0 h0 h1 ?_)
  rw [w6_0, (hG.out hd).z]
  exact c_sunWay h0 (hG.out hd) (l_catchLate h0 h1 hG hd (nW G) 0 B (by omega) hq)
theorem fore_in (B : Blk) (gone : Int32) : ∀ (n i : Nat) (b : Int32), i + n ≤ 5 → (b = -1 ∨ ∃ k, k < 5 ∧ b = nI k) → (foldF (foreS B gone) i n b = -1 ∨ ∃ k, k < 5 ∧ foldF (foreS B gone) i n b = nI k)
  | 0, _, _, _, h => h
  | n + 1, i, b, hn, h => by
    simp only [foldF]
    refine fore_in B gone n (i + 1) _ (by omega) ?_
    unfold foreS
    split
    · exact Or.inr ⟨i, by omega, rfl⟩
    · exact h
theorem l_pass {T : Th} {M : Mm} {g m : Nat} {G : Blk} {Q : Int32 → Mm → Prop} (h0 : isX1 T g) (h1 : isX2 T m) (hG : GrC M g G) (hd : g + 6 ≤ m ∨ m + 6 ≤ g) : ∀ (n i : Nat) (B : Blk) (gone wt : Int32), i + n = nW G → (Q (foldF (passS G) i n (B, gone, wt)).2.2 (wB M m 6 (catchB G (ub (foldF (passS G) i n (B, gone, wt)).1 0 0 ((foldF (passS G) i n (B, gone, wt)).1 0 0 + 1))))) → WP T mX1_pass 7 [(0, .ref g), (1, .ref m), (2, .int wt), (3, .int gone), (4, .int (nI i))] [] (wB M m 6 B) (qi Q) := by
  have h5 := nW_le G
  intro n
  induction n with
  | zero =>
    intro i B gone wt hi hq
    refine sg_X1_pass_7 h0 h1 ?_
    have hx := nW_out (G := G) (i := i) (by omega) (by omega)
    rw [(hG.out hd).z]
    simp only [foldF] at hq
    have key : ∀ M1 : Mm, M1 = sI (wB M m 6 B) m 0 ((wB M m 6 B).1 m 0 + 1) → WPv T mX1_catchLate [.ref g, .ref m] M1 (fun M2 => Q wt M2) := by
      intro M1 e
      rw [e, s6_0, w6_0]
      exact c_catchLate h0 h1 hG hd hq
    refine ⟨fun _ => key, fun z => ⟨fun _ => key, fun z2 => ?_⟩⟩
    rcases hx with hx | hx
    · exact absurd hx z
    · exact absurd hx.2 z2
  | succ n ih =>
    intro i B gone wt hi hq
    refine sg_X1_pass_7 h0 h1 ?_
    obtain ⟨e1, e2, e3, e4, e5⟩ := nW_in (G := G) (i := i) (by omega)
    have ih := ih (i + 1)
    rw [(hG.out hd).z]
    simp only [foldF] at hq
    simp only [e1, e2, e5, not_false_eq_true, false_implies, true_implies, true_and, forall_eq]
    refine c_foremost h0 h1 (hG.out hd) GrC.own ?_
    refine ⟨fun z => ?_, fun z => ?_⟩
    · rw [show passS G (B, gone, wt) i = (B, gone, wt) from if_pos z] at hq
      exact ih _ _ _ (by omega) hq
    · rw [show passS G (B, gone, wt) i = _ from if_neg z] at hq
      rcases fore_in B gone (nW G) 0 (-1) (by omega) (Or.inl rfl) with hf | ⟨k, hk, hf⟩
      · exact absurd hf z
      · have hf : foreB G B gone = nI k := hf
        rw [hf, cl_nI (by omega)] at hq
        rw [hf]
        refine c_goOn h0 h1 hG hd hk ?_
        refine ⟨fun z => ih _ _ _ (by omega) ?_, fun z => ⟨fun z2 => ih _ _ _ (by omega) ?_, fun z2 => ih _ _ _ (by omega) ?_⟩⟩
        · rw [if_neg (fun q => z q.1)] at hq; exact hq
        · rw [if_neg (fun q => z2 q.2)] at hq; exact hq
        · rw [if_pos ⟨z, z2⟩] at hq; exact hq
theorem c_pass {T : Th} {M : Mm} {g m : Nat} {G B : Blk} {Q : Int32 → Mm → Prop} (h0 : isX1 T g) (h1 : isX2 T m) (hG : GrC M g G) (hd : g + 6 ≤ m ∨ m + 6 ≤ g) (hq : Q (passB G B).2 (wB M m 6 (passB G B).1)) : WPi T mX1_pass [.ref g, .ref m] (wB M m 6 B) Q :=
  WPM.of (by decide) rfl (Nat.le_of_ble_eq_true rfl) (sg_X1_pass_0 h0 h1 (l_pass h0 h1 hG hd (nW G) 0 B 0 (-1) (by omega) hq))
theorem l_work {T : Th} {M : Mm} {g m : Nat} {G B : Blk} {Q : Int32 → Mm → Prop} (h0 : isX1 T g) (h1 : isX2 T m) (hG : GrC M g G) (hB : GrC M m B) : ∀ (n i : Nat) (a : Int32), i + n = nW G → Q (foldF (fun a w => if B 5 w < G 3 w then a else a ||| (1 <<< (nI w &&& 31))) i n a) M → WP T mX1_withWorkDone 4 [(0, .ref g), (1, .ref m), (2, .int a), (3, .int (nI i))] [] M (qi Q) := by
  have h5 := nW_le G
  intro n
  induction n with
  | zero =>
    intro i a hi hq
    refine sg_X1_withWorkDone_4 h0 h1 ?_
    have hx := nW_out (G := G) (i := i) (by omega) (by omega)
    rw [hG.z]
    simp only [foldF] at hq
    grind
  | succ n ih =>
    intro i a hi hq
    refine sg_X1_withWorkDone_4 h0 h1 ?_
    obtain ⟨e1, e2, e3, e4, e5⟩ := nW_in (G := G) (i := i) (by omega)
    have ih := ih (i + 1)
    rw [hG.z, hB 5 (by decide), hG 3 (by decide)]
    simp only [foldF] at hq
    simp only [e1, e2, e3, e4, e5, not_false_eq_true, false_implies, true_implies, true_and, forall_eq]
    refine ⟨fun z => ih _ (by omega) ?_, fun z => ih _ (by omega) ?_⟩
    · rw [if_pos z] at hq; exact hq
    · rw [if_neg z] at hq; exact hq
theorem c_work {T : Th} {M : Mm} {g m : Nat} {G B : Blk} {Q : Int32 → Mm → Prop} (h0 : isX1 T g) (h1 : isX2 T m) (hG : GrC M g G) (hB : GrC M m B) (hq : Q (workB G B) M) : WPi T mX1_withWorkDone [.ref g, .ref m] M Q :=
  WPM.of (by decide) rfl (Nat.le_of_ble_eq_true rfl) (sg_X1_withWorkDone_0 h0 h1 (l_work h0 h1 hG hB (nW G) 0 0 (by omega) hq))
theorem l_at {T : Th} {M : Mm} {g m : Nat} {G B : Blk} {p : Int32} {Q : Int32 → Mm → Prop} (h0 : isX1 T g) (h1 : isX2 T m) (hG : GrC M g G) (hB : GrC M m B) : ∀ (n i : Nat) (a : Int32), i + n = nW G → Q (foldF (fun a w => if plc G (B 1 w) = p then a ||| (1 <<< (nI w &&& 31)) else a) i n a) M → WP T mX1_wagonsAt 5 [(0, .ref g), (1, .ref m), (2, .int p), (3, .int a), (4, .int (nI i))] [] M (qi Q) := by
  have h5 := nW_le G
  intro n
  induction n with
  | zero =>
    intro i a hi hq
    refine sg_X1_wagonsAt_5 h0 h1 ?_
    have hx := nW_out (G := G) (i := i) (by omega) (by omega)
    rw [hG.z]
    simp only [foldF] at hq
    grind
  | succ n ih =>
    intro i a hi hq
    refine sg_X1_wagonsAt_5 h0 h1 ?_
    obtain ⟨e1, e2, e3, e4, e5⟩ := nW_in (G := G) (i := i) (by omega)
    have ih := ih (i + 1)
    rw [hG.z, hB 1 (by decide)]
    simp only [foldF] at hq
    simp only [e1, e2, e3, e4, e5, not_false_eq_true, false_implies, true_implies, true_and, forall_eq]
    refine c_placeOf h0 hG ⟨fun z => ih _ (by omega) ?_, fun z => ih _ (by omega) ?_⟩
    · rw [if_neg z] at hq; exact hq
    · rw [if_pos z] at hq; exact hq
theorem c_at {T : Th} {M : Mm} {g m : Nat} {G B : Blk} {p : Int32} {Q : Int32 → Mm → Prop} (h0 : isX1 T g) (h1 : isX2 T m) (hG : GrC M g G) (hB : GrC M m B) (hq : Q (atB G B p) M) : WPi T mX1_wagonsAt [.ref g, .ref m, .int p] M Q :=
  WPM.of (by decide) rfl (Nat.le_of_ble_eq_true rfl) (sg_X1_wagonsAt_0 h0 h1 (l_at h0 h1 hG hB (nW G) 0 0 (by omega) hq))
theorem l_len {T : Th} {M : Mm} {g m : Nat} {G B : Blk} {r : Int32} {Q : Int32 → Mm → Prop} (h0 : isX1 T g) (h1 : isX2 T m) (hG : GrC M g G) (hB : GrC M m B) : ∀ (n i : Nat) (s : Int32 × Int32), i + n = nW G → Q (lenF (foldF (lenS B r) i n s)) M → WP T mX1_lengthOn 8 [(0, .ref g), (1, .ref m), (2, .int r), (3, .int s.1), (4, .int s.2), (5, .int (nI i))] [] M (qi Q) := by
  have h5 := nW_le G
  intro n
  induction n with
  | zero =>
    intro i s hi hq
    refine sg_X1_lengthOn_8 h0 h1 ?_
    have hx := nW_out (G := G) (i := i) (by omega) (by omega)
    rw [hG.z]
    simp only [foldF] at hq
    have key : (¬ s.1 = -1 → Q (s.2 - s.1 + 1) M) ∧ (s.1 = -1 → Q 0 M) := ⟨fun z => by rw [show lenF s = _ from if_neg z] at hq; exact hq, fun z => by rw [show lenF s = _ from if_pos z] at hq; exact hq⟩
    refine ⟨fun _ => key, fun z => ⟨fun _ => key, fun z2 => ?_⟩⟩
    rcases hx with hx | hx
    · exact absurd hx z
    · exact absurd hx.2 z2
  | succ n ih =>
    intro i s hi hq
    refine sg_X1_lengthOn_8 h0 h1 ?_
    obtain ⟨e1, e2, e3, e4, e5⟩ := nW_in (G := G) (i := i) (by omega)
    have ih := ih (i + 1)
    rw [hG.z, hB 1 (by decide), hB 2 (by decide)]
    simp only [foldF] at hq
    simp only [e1, e2, e3, e4, e5, not_false_eq_true, false_implies, true_implies, true_and, forall_eq]
    refine ⟨fun z => ih s (by omega) ?_, fun z => ⟨fun z2 => ih (_, _) (by omega) ?_, fun z2 => ih (_, _) (by omega) ?_⟩⟩
    · rw [show lenS B r s i = s from if_neg z] at hq; exact hq
    · rw [show lenS B r s i = _ from if_pos z, if_neg z2] at hq; exact hq
    · rw [show lenS B r s i = _ from if_pos z, if_pos z2] at hq; exact hq
theorem c_len {T : Th} {M : Mm} {g m : Nat} {G B : Blk} {r : Int32} {Q : Int32 → Mm → Prop} (h0 : isX1 T g) (h1 : isX2 T m) (hG : GrC M g G) (hB : GrC M m B) (hq : Q (lenB G B r) M) : WPi T mX1_lengthOn [.ref g, .ref m, .int r] M Q :=
  WPM.of (by decide) rfl (Nat.le_of_ble_eq_true rfl) (sg_X1_lengthOn_0 h0 h1 (l_len h0 h1 hG hB (nW G) 0 (-1, -1) (by omega) hq))
theorem c_hasPoints {T : Th} {M : Mm} {g : Nat} {G : Blk} {y : Int32} {Q : Int32 → Mm → Prop} (h0 : isX1 T g) (hG : GrC M g G) (hq : Q (if ((G 0 5 >>> (plc G y &&& 31)) &&& 1) = 1 then 1 else 0) M) : WPi T mX1_hasPoints [.ref g, .int y] M Q := by
  refine WPM.of (by decide) rfl (Nat.le_of_ble_eq_true rfl) (sg_X1_hasPoints_0 h0 (c_placeOf h0 hG ?_))
  rw [hG.z]
  grind
/-- a moment becomes as another -/
theorem c_copyM {T : Th} {M : Mm} {m o : Nat} {B : Blk} {Q : Mm → Prop} (h0 : isX2 T m) (h1 : isX2 T o) (hB : GrC M o B) (hd : m + 6 ≤ o ∨ o + 6 ≤ m) (hq : ∀ C : Blk, C 0 0 = B 0 0 → C 0 1 = B 0 1 → (∀ j, 1 ≤ j → j < 6 → ∀ k, k < 5 → C j k = B j k) → Q (wB M m 6 C)) : WPv T mX2_copyFrom [.ref m, .ref o] M Q := by
  refine WPM.of (by decide) rfl (Nat.le_of_ble_eq_true rfl) (sg_X2_copyFrom_0 h0 h1 ?_)
  intro M1 e1 M2 e2 M3 e3 M4 e4 M5 e5 M6 e6 M7 e7
  have b0 := hB.z
  have b1 := hB 1 (by decide)
  have b2 := hB 2 (by decide)
  have b3 := hB 3 (by decide)
  have b4 := hB 4 (by decide)
  have b5 := hB 5 (by decide)
  have hM : M7 = wB M m 6 (bk M7 m) := by
    refine Prod.ext ?_ (by subst e7 e6 e5 e4 e3 e2 e1; rfl)
    funext a k
    simp only [wB, bk]
    split
    · rename_i h; rw [Nat.add_sub_cancel' h.1]
    · subst e7 e6 e5 e4 e3 e2 e1
      simp only [sI, sC]
      rw [if_neg (by omega), if_neg (by omega), if_neg (by omega), if_neg (by omega), if_neg (by omega), if_neg (by omega), if_neg (by omega)]
  rw [hM]
  have R1 : ∀ a, a ≠ m → M1.1 a = M.1 a := fun a h => by subst e1; funext k; simp [sI, h]
  have R2 : ∀ a, a ≠ m → M2.1 a = M.1 a := fun a h => by rw [← R1 a h]; subst e2; funext k; simp [sI, h]
  have R3 : ∀ a, a ≠ m + 1 → M3.1 a = M2.1 a := fun a h => by subst e3; funext k; simp [sC, h]
  have R4 : ∀ a, a ≠ m + 2 → M4.1 a = M3.1 a := fun a h => by subst e4; funext k; simp [sC, h]
  have R5 : ∀ a, a ≠ m + 3 → M5.1 a = M4.1 a := fun a h => by subst e5; funext k; simp [sC, h]
  have R6 : ∀ a, a ≠ m + 4 → M6.1 a = M5.1 a := fun a h => by subst e6; funext k; simp [sC, h]
  have R7 : ∀ a, a ≠ m + 5 → M7.1 a = M6.1 a := fun a h => by subst e7; funext k; simp [sC, h]
  refine hq _ ?_ ?_ ?_
  · show M7.1 (m + 0) 0 = _
    rw [Nat.add_zero, R7 m (by omega), R6 m (by omega), R5 m (by omega), R4 m (by omega), R3 m (by omega), ← b0]
    subst e2 e1; simp [sI]
  · show M7.1 (m + 0) 1 = _
    rw [Nat.add_zero, R7 m (by omega), R6 m (by omega), R5 m (by omega), R4 m (by omega), R3 m (by omega), ← b0]
    have hmo : o ≠ m := by omega
    rw [← R1 o hmo]
    subst e2; simp [sI]
  · intro j h1 h6 k hk
    have cp : ∀ (f g : Nat → Int32), va_cpy f g 0 0 5 k = f k := fun f g => by simp [va_cpy, hk]
    rcases (show j = 1 ∨ j = 2 ∨ j = 3 ∨ j = 4 ∨ j = 5 by omega) with rfl | rfl | rfl | rfl | rfl
    · show M7.1 (m + 1) k = _
      rw [R7 _ (by omega), R6 _ (by omega), R5 _ (by omega), R4 _ (by omega), ← b1, ← R2 (o + 1) (by omega)]
      subst e3; simp [sC, cp]
    · show M7.1 (m + 2) k = _
      rw [R7 _ (by omega), R6 _ (by omega), R5 _ (by omega), ← b2, ← R2 (o + 2) (by omega), ← R3 (o + 2) (by omega)]
      subst e4; simp [sC, cp]
    · show M7.1 (m + 3) k = _
      rw [R7 _ (by omega), R6 _ (by omega), ← b3, ← R2 (o + 3) (by omega), ← R3 (o + 3) (by omega), ← R4 (o + 3) (by omega)]
      subst e5; simp [sC, cp]
    · show M7.1 (m + 4) k = _
      rw [R7 _ (by omega), ← b4, ← R2 (o + 4) (by omega), ← R3 (o + 4) (by omega), ← R4 (o + 4) (by omega), ← R5 (o + 4) (by omega)]
      subst e6; simp [sC, cp]
    · show M7.1 (m + 5) k = _
      rw [← b5, ← R2 (o + 5) (by omega), ← R3 (o + 5) (by omega), ← R4 (o + 5) (by omega), ← R5 (o + 5) (by omega), ← R6 (o + 5) (by omega)]
      subst e7; simp [sC, cp]
