/-! MET -/
theorem mask_of (q : Nat → Bool) : ∃ d, d < 32 ∧ ∀ w, w < 5 → d.testBit w = q w := by
  refine ⟨(if q 0 then 1 else 0) + (if q 1 then 2 else 0) + (if q 2 then 4 else 0) + (if q 3 then 8 else 0) + (if q 4 then 16 else 0), ?_, ?_⟩
  · cases q 0 <;> cases q 1 <;> cases q 2 <;> cases q 3 <;> cases q 4 <;> decide
  · intro w hw
    rcases (show w = 0 ∨ w = 1 ∨ w = 2 ∨ w = 3 ∨ w = 4 by omega) with rfl | rfl | rfl | rfl | rfl
    all_goals (cases q 0 <;> cases q 1 <;> cases q 2 <;> cases q 3 <;> cases q 4 <;> decide)
theorem met_bits : ∀ n, n ≤ 5 → ∀ d, d < 32 → ∀ c, c < 32 → foldF (α := Int32) (fun a w => if d.testBit w then a ||| (1 <<< (nI w &&& 31)) else a) 0 n (0 : Int32) &&& (nI c ^^^ (-1 : Int32)) = foldF (α := Int32) (fun a w => if d.testBit w && !(c.testBit w) then a ||| (1 <<< (nI w &&& 31)) else a) 0 n (0 : Int32) := by decide +kernel
theorem met_eq {G B : Blk} {p : Int32} (hc : Wc (nW G) B) : atB G B p &&& (B 0 1 ^^^ (-1 : Int32)) = foldF (α := Int32) (fun a w => if bget (B 0 1) w = false ∧ plc G (B 1 w) = p then a ||| (1 <<< (nI w &&& 31)) else a) 0 (nW G) 0 := by
  have h5 := nW_le G
  obtain ⟨c, c1, c2⟩ := hc
  obtain ⟨d, d1, d2⟩ := mask_of (fun w => decide (plc G (B 1 w) = p))
  have e1 : atB G B p = foldF (α := Int32) (fun a w => if d.testBit w then a ||| (1 <<< (nI w &&& 31)) else a) 0 (nW G) 0 := by
    unfold atB
    refine foldF_cong _ _ _ (fun a w _ hw => ?_)
    rw [d2 w (by omega)]
    by_cases h : plc G (B 1 w) = p <;> simp [h]
  rw [e1, c2, met_bits (nW G) h5 d d1 c (mask_32 h5 c1)]
  refine foldF_cong _ _ _ (fun a w _ hw => ?_)
  rw [d2 w (by omega), bget_nI c (mask_32 h5 c1) w (by omega)]
  by_cases h : plc G (B 1 w) = p <;> cases c.testBit w <;> simp [h]
section
variable {T T' : Th} {x y : Nat} {M M' : Mm}
/-- the row as told -/
theorem l_begin {G F : Blk} {wt : Int32} {Q : Mm → Prop} (h7 : isX7 T' y) (hG : RG M' y G) (hW : WG G) (hF : F 0 0 = 0 ∧ F 0 1 = 0 ∧ ∀ w, w < nW G → 0 ≤ F 1 w ∧ F 1 w ≤ 20 ∧ F 4 w = 0 ∧ F 5 w = 0 ∧ F 3 w = mins G (nI w) (F 1 w)) (hf : ∀ w, w < nW G → M'.1 (y + 10) w = F 1 w ∧ M'.1 (y + 13) w = F 2 w) (hp : ∀ w, w < 10 → 0 ≤ M'.1 (y + 10) w)
    (hq : ∀ r, Rw (nW G) F r → Q (rT M' y r wt)) :
    ∀ (n i : Nat) (r : Nat → Int32), i + n = 5 → r 0 = 0 → (∀ w, w < i → w < nW G → r (1 + w) = F 1 w ∧ r (6 + w) = F 3 w ∧ r (11 + w) = 0 ∧ r (16 + w) = 0 ∧ r (26 + w) = F 2 w ∧ r (21 + w) = 0) → WP T' mX7_beginThen 9 [(0, .ref y), (1, .int (nI i))] [] (rT M' y r wt) (qv Q) := by
  have h5 := nW_le G
  intro n
  induction n with
  | zero =>
    intro i r hi h0 h1
    refine sg_X7_beginThen_9 h7 ⟨fun _ => hq r ⟨by rw [h0, hF.1], fun w hw => ?_⟩, fun z => absurd (nI_le (a := 5) (by omega) (by omega)) z⟩
    obtain ⟨a1, a2, a3, a4, a5, a6⟩ := h1 w (by omega) hw
    obtain ⟨b1, b2, b3, b4, b5⟩ := hF.2.2 w hw
    have hb0 : bget (0 : Int32) w = false := by
      have := bget_nI 0 (by decide) w (by omega)
      rw [show nI 0 = (0 : Int32) from rfl] at this
      rw [this]; exact Nat.zero_testBit w
    refine ⟨a1, a2, by rw [a3, b3], by rw [a4, b4], a5, ?_⟩
    rw [a6, hF.2.1, hb0]; rfl
  | succ n ih =>
    intro i r hi h0 h1
    refine sg_X7_beginThen_9 h7 ⟨fun z => absurd z (nI_ge (b := 5) (by omega) (by omega)), fun _ => ⟨vp_nI (by omega) (by decide), ?_⟩⟩
    have cl : ∀ c, c ≤ 26 → (nI (c + i)).toNatClampNeg = c + i := fun c hc => cl_nI (by omega)
    have vp : ∀ c, c ≤ 26 → vp_in (nI (c + i)) 31 := fun c hc => vp_nI (by omega) (by decide)
    have v10 : vp_in (nI i) 10 := vp_nI (by omega) (by decide)
    have v5 : vp_in (nI i) 5 := vp_nI (by omega) (by decide)
    rw [p_1, p_6, p_11, p_16, p_21, p_26, cl 1 (by decide), cl 6 (by decide), cl 11 (by decide), cl 16 (by decide), cl 21 (by decide), cl 26 (by decide), cl_nI (by omega), nI_1, rT_a 10 (by decide) (by decide)]
    simp only [forall_eq, vp 1 (by decide), vp 6 (by decide), vp 11 (by decide), vp 16 (by decide), vp 21 (by decide), vp 26 (by decide), v10, v5, true_and, rT_st]
    rw [rT_a 10 (by decide) (by decide)]
    refine r_costAt h7 hG.T hW (hp i (by omega)) ?_
    simp only [rT_st]
    rw [rT_a 16 (by decide) (by decide), rT_a 13 (by decide) (by decide)]
    refine ih (i + 1) _ (by omega) ?_ (fun w hw hwn => ?_)
    · rw [upd_nm _ _ (by omega), upd_nm _ _ (by omega), upd_nm _ _ (by omega), upd_nm _ _ (by omega), upd_nm _ _ (by omega), upd_nm _ _ (by omega)]; exact h0
    · by_cases e : w = i
      · subst e
        obtain ⟨b1, b2, b3, b4, b5⟩ := hF.2.2 w hwn
        obtain ⟨f1, f2⟩ := hf w hwn
        have hm := (mins_eq hW b1 hwn).1
        rw [f1, f2, hG.2.2.2.2.2.2 w hwn]
        refine ⟨?_, ?_, ?_, ?_, ?_, ?_⟩
        · rw [upd_nm _ _ (by omega), upd_nm _ _ (by omega), upd_nm _ _ (by omega), upd_nm _ _ (by omega), upd_nm _ _ (by omega), pk_us]
        · rw [upd_nm _ _ (by omega), upd_nm _ _ (by omega), upd_nm _ _ (by omega), upd_nm _ _ (by omega), pk_us, b5, hm]
        · rw [upd_nm _ _ (by omega), upd_nm _ _ (by omega), upd_nm _ _ (by omega), pk_us]
        · rw [upd_nm _ _ (by omega), upd_nm _ _ (by omega), pk_us]
        · rw [pk_us]
        · rw [upd_nm _ _ (by omega), pk_us]
      · have h := h1 w (by omega) hwn
        refine ⟨?_, ?_, ?_, ?_, ?_, ?_⟩
        all_goals (rw [upd_nm _ _ (by omega), upd_nm _ _ (by omega), upd_nm _ _ (by omega), upd_nm _ _ (by omega), upd_nm _ _ (by omega), upd_nm _ _ (by omega)])
        · exact h.1
        · exact h.2.1
        · exact h.2.2.1
        · exact h.2.2.2.1
        · exact h.2.2.2.2.1
        · exact h.2.2.2.2.2
theorem r_begin {G F : Blk} {Q : Mm → Prop} (h7 : isX7 T' y) (hG : RG M' y G) (hW : WG G) (hF : F 0 0 = 0 ∧ F 0 1 = 0 ∧ ∀ w, w < nW G → 0 ≤ F 1 w ∧ F 1 w ≤ 20 ∧ F 4 w = 0 ∧ F 5 w = 0 ∧ F 3 w = mins G (nI w) (F 1 w)) (hf : ∀ w, w < nW G → M'.1 (y + 10) w = F 1 w ∧ M'.1 (y + 13) w = F 2 w) (hp : ∀ w, w < 10 → 0 ≤ M'.1 (y + 10) w)
    (hq : ∀ r, Rw (nW G) F r → Q (rT M' y r (M'.1 y 29))) : WPv T' mX7_beginThen [.ref y] M' Q := by
  refine WPM.of (by decide) rfl (Nat.le_of_ble_eq_true rfl) (sg_X7_beginThen_0 h7 ?_)
  intro M1 e
  have e2 : M1 = rT M' y (upd (M'.1 (y + 18)) 0 0) (M'.1 y 29) := by rw [e, ← rT_st, rT_self]
  rw [e2]
  exact l_begin h7 hG hW hF hf hp hq 5 0 _ (by omega) pk_us (fun w hw => by omega)
theorem WbF {G F : Blk} (hW : WG G) (hF : F 0 0 = 0 ∧ F 0 1 = 0 ∧ ∀ w, w < nW G → 0 ≤ F 1 w ∧ F 1 w ≤ 20 ∧ F 4 w = 0 ∧ F 5 w = 0 ∧ F 3 w = mins G (nI w) (F 1 w)) : Wb (nW G) F 0 := by
  refine ⟨hF.1, ⟨0, Nat.two_pow_pos _, hF.2.1⟩, fun w hw => ?_⟩
  obtain ⟨b1, b2, b3, b4, b5⟩ := hF.2.2 w hw
  have hm := mins_eq hW b1 hw
  exact ⟨b1, b2, by rw [b5]; exact hm.2.1, by rw [b5]; exact hm.2.2⟩
theorem l_cmet {G F : Blk} {S : Stt} {I : Nat → Bool × Stt} {tn n : Nat} {tb : Nat → Int32} {tr : Int64} {p : Int32} {Q : Int32 → Mm → Prop} (hL : LayC T x) (hC : CI x M G F S I tn tb tr) (hn : n ≤ 99) :
    ∀ (m i : Nat) (B : Blk), i + m = n → Q (atB G (passN G m B) p &&& (passN G m B 0 1 ^^^ (-1))) (wB M (x + 10) 6 (passN G m B)) → WP T mX6_met 39 [(0, .ref x), (1, .int p), (2, .int (nI n)), (3, .int (nI i))] [] (wB M (x + 10) 6 B) (qi Q) := by
  intro m
  induction m with
  | zero =>
    intro i B hi hq
    have hC2 := hC.frame (FrC.tri (B := B))
    refine sg_X6_met_39 hL.1 ⟨fun _ => ?_, fun z => absurd (nI_le (by omega) (by omega)) z⟩
    simp only [forall_eq]
    refine ⟨hC2.isG hL, c_at (hC2.isG hL) hL.tri hC2.2.1 GrC.own ?_⟩
    rw [w6_0]; exact hq
  | succ m ih =>
    intro i B hi hq
    refine sg_X6_met_39 hL.1 ⟨fun z => absurd z (nI_ge (by omega) (by omega)), fun _ => ?_⟩
    rw [nI_1]
    simp only [forall_eq]
    exact ⟨(hC.frame FrC.tri).isG hL, c_passT hL hC (ih (i + 1) _ (by omega) hq)⟩
theorem l_rmet {G B : Blk} {p : Int32} {t : Nat} {Q : Int32 → Mm → Prop} (h7 : isX7 T' y) (hG : RG M' y G) (hW : WG G) (hr : Rw (nW G) B (M'.1 (y + 18))) (hb : Wb (nW G) B t) :
    ∀ (n i : Nat) (a : Int32), i + n = nW G → Q (foldF (fun a w => if bget (B 0 1) w = false ∧ plc G (B 1 w) = p then a ||| (1 <<< (nI w &&& 31)) else a) i n a) M' → WP T' mX7_met 42 [(0, .ref y), (1, .int p), (3, .int a), (4, .int (nI i))] [] M' (qi Q) := by
  have h5 := nW_le G
  intro n
  induction n with
  | zero =>
    intro i a hi hq
    refine sg_X7_met_42 h7 ?_
    rw [hG.2.2.2.2.1, hW.2.1]
    exact ⟨fun _ => hq, fun z => absurd (nI_le (by omega) (by omega)) z⟩
  | succ n ih =>
    intro i a hi hq
    refine sg_X7_met_42 h7 ?_
    obtain ⟨r1, r2, r3, r4, r5, r6⟩ := hr.2 i (by omega)
    obtain ⟨q, hp, hlt, e1, e2, e3⟩ := plc_in hW (hb.2.2 i (by omega)).1
    rw [hG.2.2.2.2.1, hW.2.1, p_21, p_1, cl_nI (by omega), cl_nI (by omega), r6, r1, hG.1, e2, nI_1]
    simp only [forall_eq]
    simp only [foldF] at hq
    rw [e1] at hq
    refine ⟨fun z => absurd z (nI_ge (by omega) (by omega)), fun _ => ⟨vp_nI (by omega) (by decide), fun z => ?_, fun z => ⟨vp_nI (by omega) (by decide), e3, fun z2 => ?_, fun z2 => ?_⟩⟩⟩
    · rw [if_neg (fun h => by rw [h.1] at z; exact z rfl)] at hq
      refine ih (i + 1) _ (by omega) ?_
      simpa using hq
    · rw [if_neg (fun h => z2 h.2)] at hq
      refine ih (i + 1) _ (by omega) ?_
      simpa using hq
    · have hb : bget (B 0 1) i = false := by
        cases h : bget (B 0 1) i
        · rfl
        · rw [h] at z; exact absurd z (by decide)
      rw [if_pos ⟨hb, z2⟩] at hq
      exact ih (i + 1) _ (by omega) hq
theorem e_met {p n : Int32} (hL : LayC T x) (h7 : isX7 T' y) (hI : Inv x y M M') : WPi T mX6_met [.ref x, .int p, .int n] M (fun v N => WPi T' mX7_met [.ref y, .int p, .int n] M' (fun v' N' => v' = v ∧ Inv x y N N')) := by
  have hI' := hI
  obtain ⟨G, F, S, I, tn, tb, tr, hC, hR, hS⟩ := hI
  have h5 := nW_le G
  have hW := hS.1
  have hF := hS.2.2.1
  have hg := hC.isG hL
  have hpl := inPl (p := p) hW
  have bad : ¬ (hasPl G p = true ∧ 0 ≤ n ∧ n ≤ 99) → WPi T' mX7_met [.ref y, .int p, .int n] M' (fun v' N' => v' = -1 ∧ Inv x y M N') := by
    intro hb
    refine WPM.of (by decide) rfl (Nat.le_of_ble_eq_true rfl) (sg_X7_met_0 h7 (r_in ?_))
    rw [hR.1.1]
    by_cases hp : hasPl G p = true
    · rw [if_pos (hpl.mpr hp)]
      refine ⟨fun z => absurd z (by decide), fun _ => r_in ?_⟩
      rw [if_neg (fun q => hb ⟨hp, q⟩)]
      exact ⟨fun z => absurd rfl z, fun _ => ⟨rfl, hI'⟩⟩
    · rw [if_neg (fun q => hp (hpl.mp q))]
      exact ⟨fun _ => ⟨rfl, hI'⟩, fun z => absurd rfl z⟩
  refine WPM.of (by decide) rfl (Nat.le_of_ble_eq_true rfl) (sg_X6_met_0 hL.1 ?_)
  simp only [forall_eq]
  refine ⟨hg, c_hasPlace hg hC.2.1 ?_⟩
  by_cases hp : hasPl G p = true
  · rw [hp]
    refine ⟨fun z => absurd z (by decide), fun _ => ⟨fun z => bad (by grind), fun z => ⟨fun z2 => ⟨hg, ?_⟩, fun z2 => bad (by grind)⟩⟩⟩
    have hn : 0 ≤ n ∧ n ≤ 99 := by grind
    obtain ⟨m, hm, rfl⟩ := nI_of2 (M := 99) (n := 99) rfl (Int32.not_lt.mpr hn.1) hn.2
    refine c_copyM hL.tri hg.2.2.2.2.2.2 hC.2.2.1 (by rcases hC.1 with h | h <;> rw [h.1] <;> omega) (fun C c1 c2 c3 => ?_)
    have ag : Ag F C := ⟨c1, c2, c3⟩
    refine l_cmet hL hC hm m 0 C (by omega) ?_
    have hwb := (WbF hW hF).ag h5 ag
    have hwb2 := Wb.passN hW m C 0 hwb (by omega)
    rw [met_eq hwb2.2.1]
    refine WPM.of (by decide) rfl (Nat.le_of_ble_eq_true rfl) (sg_X7_met_0 h7 (r_in ?_))
    rw [hR.1.1, if_pos (hpl.mpr hp)]
    refine ⟨fun z => absurd z (by decide), fun _ => r_in ?_⟩
    rw [if_pos hn]
    refine ⟨fun _ => r_begin h7 hR.1 hW hF hR.2.2.1.1 hR.2.2.1.2 (fun r1 hr1 => ?_), fun z => absurd z (by decide)⟩
    refine r_passMany (t := 0) h7 hR.1.T hW (by omega) (by rw [rT_t]; exact hr1.ag h5 ag) hwb (by omega) (fun r3 wt3 hr3 => ?_)
    rw [rT_rT]
    refine l_rmet (B := passN G m C) h7 hR.1.T hW (by rw [rT_t]; exact hr3) hwb2 (nW G) 0 0 (by omega) ?_
    exact ⟨rfl, G, F, S, I, tn, tb, tr, hC.frame FrC.tri, hR.frame rT_FrR, hS⟩
  · rw [show hasPl G p = false by simpa using hp]
    exact ⟨fun _ => bad (fun q => hp q.1), fun z => absurd rfl z⟩
end
