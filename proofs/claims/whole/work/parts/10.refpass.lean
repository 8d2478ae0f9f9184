/-! THE REFERENCE: its memory with the row 'then' and 'waiting' written -/
def rT (M : Mm) (y : Nat) (r : Nat → Int32) (wt : Int32) : Mm := (fun a k => if a = y + 18 then r k else if a = y ∧ k = 29 then wt else M.1 a k, M.2.1, M.2.2)
theorem rT_t {M : Mm} {y : Nat} {r : Nat → Int32} {wt : Int32} : (rT M y r wt).1 (y + 18) = r := by funext k; simp [rT]
theorem rT_w {M : Mm} {y : Nat} {r : Nat → Int32} {wt : Int32} : (rT M y r wt).1 y 29 = wt := by simp [rT]
theorem rT_f {M : Mm} {y k : Nat} {r : Nat → Int32} {wt : Int32} (h : k ≠ 29) : (rT M y r wt).1 y k = M.1 y k := by simp [rT, h]
theorem rT_o {M : Mm} {y a : Nat} {r : Nat → Int32} {wt : Int32} (h1 : a ≠ y) (h2 : a ≠ y + 18) : (rT M y r wt).1 a = M.1 a := by funext k; simp [rT, h1, h2]
theorem rT_a {M : Mm} {y : Nat} {r : Nat → Int32} {wt : Int32} (c : Nat) (h1 : c ≠ 0) (h2 : c ≠ 18) : (rT M y r wt).1 (y + c) = M.1 (y + c) := rT_o (by omega) (by omega)
theorem rT_st {M : Mm} {y k : Nat} {r : Nat → Int32} {wt v : Int32} : sI (rT M y r wt) (y + 18) k v = rT M y (upd r k v) wt := by
  refine Prod.ext ?_ rfl
  funext a l
  simp only [sI, rT, upd]
  grind
theorem rT_sw {M : Mm} {y : Nat} {r : Nat → Int32} {wt v : Int32} : sI (rT M y r wt) y 29 v = rT M y r v := by
  refine Prod.ext ?_ rfl
  funext a l
  simp only [sI, rT]
  grind
theorem rT_self {M : Mm} {y : Nat} : rT M y (M.1 (y + 18)) (M.1 y 29) = M := by
  refine Prod.ext ?_ rfl
  funext a l
  simp only [rT]
  grind
theorem rT_rT {M : Mm} {y : Nat} {r s : Nat → Int32} {wt wu : Int32} : rT (rT M y r wt) y s wu = rT M y s wu := by
  refine Prod.ext ?_ rfl
  funext a l
  simp only [rT]
  grind
/-- the ground as it must be -/
def WG (G : Blk) : Prop := (∃ sz, 4 ≤ sz ∧ sz ≤ 12 ∧ G 0 0 = nI sz) ∧ G 0 6 = nI (nW G) ∧ 1 ≤ G 0 1 ∧ G 0 1 ≤ 9 ∧ (G 0 4 = -9 ∨ (0 ≤ G 0 4 ∧ G 0 4 < G 0 0)) ∧ (∀ p, p < 12 → 1 ≤ G 1 p ∧ G 1 p ≤ 4) ∧ ∀ w, w < nW G → 0 ≤ G 2 w ∧ G 2 w ≤ 3
/-- the reference's ground is G -/
def RG (M : Mm) (y : Nat) (G : Blk) : Prop := M.1 (y + 2) 0 = G 0 0 ∧ M.1 (y + 3) 0 = G 0 1 ∧ M.1 (y + 4) 0 = G 0 2 ∧ M.1 (y + 5) 0 = G 0 4 ∧ M.1 (y + 7) 0 = G 0 6 ∧ (∀ p, p < 12 → M.1 (y + 9) p = G 1 p) ∧ ∀ w, w < nW G → M.1 (y + 16) w = G 2 w
theorem RG.T {M : Mm} {y : Nat} {G : Blk} {r : Nat → Int32} {wt : Int32} (h : RG M y G) : RG (rT M y r wt) y G := by
  unfold RG at h ⊢
  rw [rT_a 2 (by decide) (by decide), rT_a 3 (by decide) (by decide), rT_a 4 (by decide) (by decide), rT_a 5 (by decide) (by decide), rT_a 7 (by decide) (by decide), rT_a 9 (by decide) (by decide), rT_a 16 (by decide) (by decide)]
  exact h
/-- a row of the reference is a moment of the class -/
def Rw (n : Nat) (B : Blk) (r : Nat → Int32) : Prop := r 0 = B 0 0 ∧ ∀ w, w < n → r (1 + w) = B 1 w ∧ r (6 + w) = B 3 w ∧ r (11 + w) = B 4 w ∧ r (16 + w) = B 5 w ∧ r (26 + w) = B 2 w ∧ r (21 + w) = (if bget (B 0 1) w then 1 else 0)
def Wk (n : Nat) (B : Blk) (K : Int32) : Prop := ∀ w, w < n → 0 ≤ B 1 w ∧ B 1 w ≤ K ∧ 0 ≤ B 3 w ∧ B 3 w ≤ 7
theorem p_1 (w : Nat) : (1 : Int32) + nI w = nI (1 + w) := nI_add 1 w
theorem p_6 (w : Nat) : (6 : Int32) + nI w = nI (6 + w) := nI_add 6 w
theorem p_11 (w : Nat) : (11 : Int32) + nI w = nI (11 + w) := nI_add 11 w
theorem p_16 (w : Nat) : (16 : Int32) + nI w = nI (16 + w) := nI_add 16 w
theorem p_21 (w : Nat) : (21 : Int32) + nI w = nI (21 + w) := nI_add 21 w
theorem p_26 (w : Nat) : (26 : Int32) + nI w = nI (26 + w) := nI_add 26 w
/-- the place of a way on the ground: a number below the ground's size -/
theorem plc_in {G : Blk} {y : Int32} (hW : WG G) (h : 0 ≤ y) : ∃ p, p < 12 ∧ nI p < G 0 0 ∧ plc G y = nI p ∧ y - y / G 0 0 * G 0 0 = nI p ∧ ¬ G 0 0 = 0 := by
  obtain ⟨⟨sz, h1, h2, h3⟩, -⟩ := hW
  obtain ⟨j, hj, rfl⟩ := nI_of (Int32.not_lt.mpr h)
  have e : nI j - nI j / nI sz * nI sz = nI (j % sz) := pk_rem hj (by omega) (by omega)
  have hlt : j % sz < sz := Nat.mod_lt _ (by omega)
  refine ⟨j % sz, by omega, by rw [h3]; exact nI_lt hlt (by omega), ?_, by rw [h3]; exact e, by rw [h3]; exact nI_ne0 (by omega) (by omega)⟩
  unfold plc
  rw [h3, if_pos (show (1 : Int32) ≤ nI sz from nI_le (a := 1) (by omega) (by omega))]
  exact e
theorem mins_eq {G : Blk} {w : Nat} {y : Int32} (hW : WG G) (h : 0 ≤ y) (hw : w < nW G) : mins G (nI w) y = G 1 (plc G y).toNatClampNeg + G 2 w ∧ 0 ≤ mins G (nI w) y ∧ mins G (nI w) y ≤ 7 := by
  obtain ⟨p, hp, hlt, e, -, -⟩ := plc_in hW h
  obtain ⟨-, hn, -, -, -, hc, hpc⟩ := hW
  have h5 := nW_le G
  have hP : hasPl G (plc G y) = true := by
    unfold hasPl; rw [e]
    exact decide_eq_true ⟨nI_pos' (by omega), hlt, nI_lt (b := 12) hp (by omega)⟩
  have hw' : hasWg G (nI w) = true := by
    unfold hasWg; rw [hn]
    exact decide_eq_true ⟨nI_pos' (by omega), nI_lt hw (by omega), nI_lt (b := 5) (by omega) (by omega)⟩
  have c1 := hc p hp
  have c2 := hpc w hw
  have e2 : mins G (nI w) y = G 1 p + G 2 w := by
    unfold mins; rw [hP, hw', e, cl_nI (by omega), cl_nI (by omega)]; rfl
  rw [e2, e, cl_nI (by omega)]
  exact ⟨rfl, by grind, by grind⟩
theorem r_in {T : Th} {M : Mm} {v a b : Int32} {Q : Int32 → Mm → Prop} (hq : Q (if a ≤ v ∧ v ≤ b then 1 else 0) M) : WPi T mX7_in [.int v, .int a, .int b] M Q := by
  refine WPM.of (by decide) rfl (Nat.le_of_ble_eq_true rfl) (sg_X7_in_0 ?_)
  grind
theorem r_costAt {T : Th} {M : Mm} {y : Nat} {G : Blk} {v : Int32} {Q : Int32 → Mm → Prop} (h0 : isX7 T y) (hG : RG M y G) (hW : WG G) (hv : 0 ≤ v) (hq : Q (G 1 (plc G v).toNatClampNeg) M) : WPi T mX7_costAt [.ref y, .int v] M Q := by
  refine WPM.of (by decide) rfl (Nat.le_of_ble_eq_true rfl) (sg_X7_costAt_0 h0 ?_)
  obtain ⟨p, hp, hlt, e, e2, e3⟩ := plc_in hW hv
  rw [hG.1, e2, cl_nI (by omega), hG.2.2.2.2.2.1 p hp]
  rw [e, cl_nI (by omega)] at hq
  exact ⟨e3, vp_nI (by omega) (by decide), hq⟩
theorem r_sunAt {T : Th} {M : Mm} {y : Nat} {G : Blk} {t : Int32} {Q : Int32 → Mm → Prop} (h0 : isX7 T y) (hG : RG M y G) (hW : WG G) (hq : Q (sunW G t (G 0 2)) M) : WPi T mX7_sunAt [.ref y, .int t] M Q := by
  refine WPM.of (by decide) rfl (Nat.le_of_ble_eq_true rfl) (sg_X7_sunAt_0 h0 ?_)
  rw [hG.2.1, hG.2.2.1]
  have h1 := hW.2.2.1
  unfold sunW at hq
  rw [if_pos h1] at hq
  refine ⟨?_, hq⟩
  grind
theorem l_isFree {T : Th} {M : Mm} {y : Nat} {G B : Blk} {v rl : Int32} {Q : Int32 → Mm → Prop} (h0 : isX7 T y) (hG : RG M y G) (hW : WG G) (hv : 0 ≤ v) (hr : Rw (nW G) B (M.1 (y + 18))) : ∀ (n i : Nat) (b : Bool), i + n = nW G → Q (b2i (b && !(anyF (fun w => decide (B 1 w = v ∧ (plc G v = G 0 4 ∨ B 2 w = rl))) i n))) M → WP T mX7_isFree 5 [(0, .ref y), (1, .int v), (2, .int rl), (3, .int (b2i b)), (4, .int (nI i))] [] M (qi Q) := by
  have h5 := nW_le G
  obtain ⟨p, hp, hlt, e, e2, e3⟩ := plc_in hW hv
  have hbr : G 0 4 = -9 → ¬ plc G v = G 0 4 := fun a b => by
    rw [a, e] at b
    have := nI_pos' (n := p) (by omega)
    rw [b] at this
    exact absurd this (by decide)
  intro n
  induction n with
  | zero =>
    intro i b hi hq
    refine sg_X7_isFree_5 h0 ?_
    rw [hG.2.2.2.2.1, hW.2.1]
    refine ⟨fun _ => ⟨by cases b <;> simp [b2i], ?_⟩, fun z => absurd (nI_le (by omega) (by omega)) z⟩
    simpa [anyF] using hq
  | succ n ih =>
    intro i b hi hq
    refine sg_X7_isFree_5 h0 ?_
    rw [hG.2.2.2.2.1, hG.2.2.2.1, hG.1, hW.2.1, e2]
    have ih := ih (i + 1)
    obtain ⟨r1, r2, r3, r4, r5, r6⟩ := hr.2 i (by omega)
    have key : ∀ s0 : Int32, (s0 = 0 ↔ ¬ plc G v = G 0 4) → WP T mX7_isFree 49 [(0, .ref y), (1, .int v), (2, .int rl), (3, .int (b2i b)), (4, .int (nI i))] [.int s0] M (qi Q) := by
      intro s0 hs
      refine sg_X7_isFree_49 h0 ?_
      rw [p_1, p_26, cl_nI (by omega), cl_nI (by omega), r1, r5, nI_1]
      simp only [forall_eq]
      simp only [anyF] at hq
      refine ⟨fun z => ih false (by omega) ?_, fun z => ⟨vp_nI (by omega) (by decide), fun z2 => ih true (by omega) ?_, fun z2 => ⟨vp_nI (by omega) (by decide), fun z3 => ih false (by omega) ?_, fun z3 => ⟨fun z4 => ih false (by omega) ?_, fun z4 => ih true (by omega) ?_⟩⟩⟩⟩
      all_goals (cases b <;> simp_all [b2i])
    refine ⟨fun z => absurd z (nI_ge (by omega) (by omega)), fun _ => ⟨fun z => key 0 ?_, fun z => ⟨e3, fun z2 => key 0 ?_, fun z2 => key 1 ?_⟩⟩⟩
    · exact ⟨fun _ => hbr z, fun _ => rfl⟩
    · rw [e]; exact ⟨fun _ => z2, fun _ => rfl⟩
    · rw [e]; exact ⟨fun q => absurd q (by decide), fun q => absurd z2 q⟩
theorem r_isFree {T : Th} {M : Mm} {y : Nat} {G B : Blk} {v rl : Int32} {Q : Int32 → Mm → Prop} (h0 : isX7 T y) (hG : RG M y G) (hW : WG G) (hv : 0 ≤ v) (hr : Rw (nW G) B (M.1 (y + 18))) (hq : Q (b2i (!(barB G B rl v))) M) : WPi T mX7_isFree [.ref y, .int v, .int rl] M Q :=
  WPM.of (by decide) rfl (Nat.le_of_ble_eq_true rfl) (sg_X7_isFree_0 h0 (l_isFree h0 hG hW hv hr (nW G) 0 true (by omega) (by simpa [barB] using hq)))
theorem Rw.u1 {n w : Nat} {B : Blk} {r : Nat → Int32} {v : Int32} (h : Rw n B r) (hn : n ≤ 5) (hw : w < n) : Rw n (ub B 1 w v) (upd r (1 + w) v) := by
  refine ⟨by have := h.1; simp only [upd, ub]; grind, fun u hu => ?_⟩
  have := h.2 u hu
  simp only [upd, ub]; grind
theorem Rw.u3 {n w : Nat} {B : Blk} {r : Nat → Int32} {v : Int32} (h : Rw n B r) (hn : n ≤ 5) (hw : w < n) : Rw n (ub B 3 w v) (upd r (6 + w) v) := by
  refine ⟨by have := h.1; simp only [upd, ub]; grind, fun u hu => ?_⟩
  have := h.2 u hu
  simp only [upd, ub]; grind
theorem Rw.u4 {n w : Nat} {B : Blk} {r : Nat → Int32} {v : Int32} (h : Rw n B r) (hn : n ≤ 5) (hw : w < n) : Rw n (ub B 4 w v) (upd r (11 + w) v) := by
  refine ⟨by have := h.1; simp only [upd, ub]; grind, fun u hu => ?_⟩
  have := h.2 u hu
  simp only [upd, ub]; grind
theorem Rw.u5 {n w : Nat} {B : Blk} {r : Nat → Int32} {v : Int32} (h : Rw n B r) (hn : n ≤ 5) (hw : w < n) : Rw n (ub B 5 w v) (upd r (16 + w) v) := by
  refine ⟨by have := h.1; simp only [upd, ub]; grind, fun u hu => ?_⟩
  have := h.2 u hu
  simp only [upd, ub]; grind
theorem Rw.u2 {n w : Nat} {B : Blk} {r : Nat → Int32} {v : Int32} (h : Rw n B r) (hn : n ≤ 5) (hw : w < n) : Rw n (ub B 2 w v) (upd r (26 + w) v) := by
  refine ⟨by have := h.1; simp only [upd, ub]; grind, fun u hu => ?_⟩
  have := h.2 u hu
  simp only [upd, ub]; grind
theorem Rw.u0 {n : Nat} {B : Blk} {r : Nat → Int32} {v : Int32} (h : Rw n B r) : Rw n (ub B 0 0 v) (upd r 0 v) := by
  refine ⟨by simp only [upd, ub]; grind, fun u hu => ?_⟩
  have := h.2 u hu
  simp only [upd, ub]; grind
theorem upd_nm (r : Nat → Int32) {k j : Nat} (v : Int32) (h : j ≠ k) : upd r k v j = r j := pk_un h
theorem r_move {T : Th} {M : Mm} {y w : Nat} {G B : Blk} {r : Nat → Int32} {wt K : Int32} {Q : Mm → Prop} (h0 : isX7 T y) (hG : RG M y G) (hW : WG G) (hr : Rw (nW G) B r) (hk : Wk (nW G) B K) (hK : K ≤ 30000) (hw : w < nW G)
    (hq : ∀ r', Rw (nW G) (goB G B w).1 r' → Q (rT M y r' (if (goB G B w).2 = 0 ∧ wt = -9 then nI w else wt))) : WPv T mX7_move [.ref y, .int (nI w)] (rT M y r wt) Q := by
  have h5 := nW_le G
  obtain ⟨r1, r2, r3, r4, r5, r6⟩ := hr.2 w hw
  obtain ⟨k1, k2, k3, k4⟩ := hk w hw
  have vp : ∀ c, c ≤ 26 → vp_in (nI (c + w)) 31 := fun c hc => vp_nI (by omega) (by decide)
  have cl : ∀ c, c ≤ 26 → (nI (c + w)).toNatClampNeg = c + w := fun c hc => cl_nI (by omega)
  refine WPM.of (by decide) rfl (Nat.le_of_ble_eq_true rfl) (sg_X7_move_0 h0 ?_)
  rw [p_21, p_11, p_6, p_16, cl 21 (by decide), cl 11 (by decide), cl 6 (by decide), cl 16 (by decide), rT_t, r6, r3, r2]
  simp only [vp 21 (by decide), vp 11 (by decide), vp 6 (by decide), vp 16 (by decide), true_and, forall_eq, rT_st, rT_t]
  unfold goB at hq
  by_cases hc : bget (B 0 1) w = true
  · simp only [hc, if_true] at hq ⊢
    refine ⟨fun z => absurd trivial z, fun _ => ?_⟩
    have := hq r hr
    rw [if_neg (fun q => absurd q.1 (by decide))] at this
    exact this
  · simp only [hc, if_false, Bool.false_eq_true] at hq ⊢
    refine ⟨fun _ => ⟨fun z => ?_, fun z => ?_⟩, fun z => absurd z (by decide)⟩
    · have z' : ¬ 0 < B 4 w := Int32.not_lt.mpr z
      simp only [z', if_false] at hq
      -- behind the minute that is left
      have key : ∀ s0 : Int32, B 3 w - s0 = decL (B 3 w) → WP T mX7_move 80 [(0, .ref y), (1, .int (nI w))] [.int s0, .int (B 3 w), .int (nI (6 + w)), .ref (y + 18)] (rT M y r wt) (qv Q) := by
        intro s0 hs
        refine sg_X7_move_80 h0 h0.2.2.2.2.2.2.2.2.2.2.2.2.2.2.2.2.2.2.1 ?_
        rw [p_6, p_1, p_26, cl 6 (by decide), cl 1 (by decide), cl 26 (by decide), hs]
        have hr3 := hr.u3 (v := decL (B 3 w)) h5 hw
        simp only [vp 1 (by decide), vp 6 (by decide), vp 26 (by decide), true_and, forall_eq, rT_st, rT_t, pk_us]
        rw [upd_nm r (k := 6 + w) (j := 1 + w) _ (by omega), upd_nm r (k := 6 + w) (j := 26 + w) _ (by omega), r1, r5]
        refine ⟨fun z2 => ?_, fun z2 => ?_⟩
        · have z2' : ¬ 0 < decL (B 3 w) := Int32.not_lt.mpr z2
          simp only [z2', if_false] at hq
          have hv : 0 ≤ B 1 w + 1 := by grind
          refine r_isFree (B := ub B 3 w (decL (B 3 w))) h0 hG.T hW hv (by rw [rT_t]; exact hr3) ?_
          have hb : barB G (ub B 3 w (decL (B 3 w))) (B 2 w) (B 1 w + 1) = barB G B (B 2 w) (B 1 w + 1) := by
            unfold barB
            refine anyF_cong _ _ (fun v _ _ => ?_)
            rw [ub_n _ _ (by omega), ub_n _ _ (by omega)]
          rw [hb]
          by_cases hbar : barB G B (B 2 w) (B 1 w + 1) = true
          · simp only [hbar, if_true, b2i, Bool.not_true, Bool.false_eq_true, if_false] at hq ⊢
            refine ⟨fun _ => ?_, fun z => absurd trivial z⟩
            rw [rT_w]
            have q1 := hq _ hr3
            refine ⟨fun z3 => ?_, fun z3 => ?_⟩
            · rw [if_neg (fun q => z3 q.2)] at q1; rw [rT_sw]; exact q1
            · rw [if_pos ⟨trivial, z3⟩] at q1; rw [rT_sw]; exact q1
          · simp only [hbar, b2i, Bool.false_eq_true, if_false, Bool.not_false, if_true] at hq ⊢
            refine ⟨fun z => absurd z (by decide), fun _ => ?_⟩
            rw [rT_st]
            refine r_costAt h0 hG.T hW hv ?_
            rw [cl_nI (by omega), rT_a 16 (by decide) (by decide), hG.2.2.2.2.2.2 w hw, rT_st]
            refine ⟨vp_nI (by omega) (by decide), ?_⟩
            have hr4 := (hr3.u1 (v := B 1 w + 1) h5 hw).u3 (v := mins G (nI w) (B 1 w + 1)) h5 hw
            have q1 := hq _ hr4
            rw [if_neg (fun q => absurd q.1 (by decide)), (mins_eq hW hv hw).1] at q1
            exact q1
        · have z2' : 0 < decL (B 3 w) := Int32.not_le.mp z2
          simp only [z2', if_true] at hq
          have q1 := hq _ hr3
          rw [if_neg (fun q => absurd q.1 (by decide))] at q1
          exact q1
      refine ⟨fun z2 => key 0 ?_, fun z2 => key 1 ?_⟩
      · unfold decL; grind
      · unfold decL; grind
    · have z' : 0 < B 4 w := Int32.not_le.mp z
      simp only [z', if_true] at hq
      rw [upd_nm r (k := 11 + w) (j := 16 + w) _ (by omega), r4]
      have hr4 := (hr.u4 (v := B 4 w - 1) h5 hw).u5 (v := B 5 w + 1) h5 hw
      have q1 := hq _ hr4
      rw [if_neg (fun q => absurd q.1 (by decide))] at q1
      exact q1
/-- bounds stay -/
theorem Wk.go {G B : Blk} {w : Nat} {K : Int32} (hW : WG G) (hk : Wk (nW G) B K) (hK : K ≤ 30000) (hw : w < nW G) : Wk (nW G) (goB G B w).1 (K + 1) := by
  intro u hu
  have ku := hk u hu
  have kw := hk w hw
  have hm := mins_eq (y := B 1 w + 1) hW (by grind) hw
  have hdec : 0 ≤ decL (B 3 w) ∧ decL (B 3 w) ≤ 7 := by unfold decL; grind
  unfold goB
  split
  · grind
  · split
    · simp only [ub]; grind
    · split
      · simp only [ub]; grind
      · split
        · simp only [ub]; grind
        · simp only [ub]; grind
theorem go_01 (G B : Blk) (w : Nat) : (goB G B w).1 0 = B 0 := by
  funext k
  unfold goB
  split
  · rfl
  · split
    · simp [ub]
    · split
      · simp [ub]
      · split <;> simp [ub]
/-! the set of those that have gone, as a number -/
def cnt5 (c n : Nat) : Nat := ((List.range n).filter (fun w => c.testBit w)).length
theorem gone_bits : ∀ c, c < 32 → ∀ w, w < 5 → (((nI c >>> (nI w &&& 31)) &&& 1) = 0 ↔ c.testBit w = false) ∧ nI c ||| (1 <<< (nI w &&& 31)) = nI (c ||| 2 ^ w) ∧ c ||| 2 ^ w < 32 := by decide +kernel
theorem cnt_bits : ∀ n, n ≤ 5 → ∀ c, c < 32 → ∀ w, w < n → c.testBit w = false → cnt5 (c ||| 2 ^ w) n = cnt5 c n + 1 := by decide +kernel
theorem cnt_free : ∀ n, n ≤ 5 → ∀ c, c < 32 → cnt5 c n < n → ∃ w, w < n ∧ c.testBit w = false := by decide +kernel
theorem bget_nI : ∀ c, c < 32 → ∀ w, w < 5 → bget (nI c) w = c.testBit w := by decide +kernel
theorem m9_m1 {k : Nat} (h : k < 5) : nI k ≠ -9 ∧ nI k ≠ -1 := by
  have h1 := nI_pos' (n := k) (by omega)
  constructor <;> intro e <;> rw [e] at h1 <;> exact absurd h1 (by decide)
/-- the reference's inner loop finds the foremost -/
theorem l_first {T : Th} {M : Mm} {y c : Nat} {G B : Blk} {x2 : Int32} {Q : Mm → Prop} (h0 : isX7 T y) (hG : RG M y G) (hW : WG G) (hr : Rw (nW G) B (M.1 (y + 18))) (hc : c < 32) (hx : ∃ w, w < nW G ∧ c.testBit w = false)
    (hq : ∀ k, k < nW G → c.testBit k = false → foreB G B (nI c) = nI k → ∀ v1 : Int32, v1 = nI c ||| (1 <<< (nI k &&& 31)) → WPv T mX7_move [.ref y, .int (nI k)] M (fun M2 => ∀ v3 : Int32, v3 = x2 + 1 → WP T mX7_pass 10 [(0, .ref y), (1, .int v1), (2, .int v3)] [] M2 (qv Q))) :
    ∀ (n i : Nat) (a b : Int32), i + n = nW G → ((a = -9 ∧ b = -1 ∧ ∀ w, w < i → c.testBit w = true) ∨ ∃ k, k < i ∧ c.testBit k = false ∧ a = nI k ∧ b = nI k) → foreB G B (nI c) = foldF (foreS B (nI c)) i n b → WP T mX7_pass 26 [(0, .ref y), (1, .int (nI c)), (2, .int x2), (3, .int a), (4, .int (nI i))] [] M (qv Q) := by
  have h5 := nW_le G
  intro n
  induction n with
  | zero =>
    intro i a b hi hab hf
    refine sg_X7_pass_26 h0 ?_
    rw [hG.2.2.2.2.1, hW.2.1]
    refine ⟨fun _ => ?_, fun z => absurd (nI_le (by omega) (by omega)) z⟩
    rcases hab with ⟨-, -, hall⟩ | ⟨k, hk, hkb, ha, hb⟩
    · obtain ⟨w, hw, hwb⟩ := hx
      have := hall w (by omega)
      rw [this] at hwb; cases hwb
    · simp only [foldF] at hf
      rw [ha]
      exact hq k (by omega) hkb (by rw [hf, hb])
  | succ n ih =>
    intro i a b hi hab hf
    refine sg_X7_pass_26 h0 ?_
    rw [hG.2.2.2.2.1, hW.2.1]
    simp only [foldF] at hf
    have ih := ih (i + 1)
    have hbit := (gone_bits c hc i (by omega)).1
    have r1 := (hr.2 i (by omega)).1
    refine ⟨fun z => absurd z (nI_ge (by omega) (by omega)), fun _ => ⟨fun z => ?_, fun z => ⟨fun z2 => ?_, fun z2 => ?_⟩⟩⟩
    · intro v1 e; rw [e, nI_1]
      rw [show foreS B (nI c) b i = b from if_neg (fun q => z q.1)] at hf
      refine ih a b (by omega) ?_ hf
      have hb2 : c.testBit i = true := by rw [hbit] at z; simpa using z
      rcases hab with ⟨h1, h2, hall⟩ | ⟨k, hk, h1⟩
      · refine Or.inl ⟨h1, h2, fun w hw => ?_⟩
        by_cases e : w = i
        · rw [e]; exact hb2
        · exact hall w (by omega)
      · exact Or.inr ⟨k, by omega, h1⟩
    · intro v1 e; rw [e, nI_1]
      rcases hab with ⟨h1, h2, hall⟩ | ⟨k, hk, h3, h4, -⟩
      · rw [show foreS B (nI c) b i = nI i from if_pos ⟨z, Or.inl h2⟩] at hf
        exact ih (nI i) (nI i) (by omega) (Or.inr ⟨i, by omega, hbit.mp z, rfl, rfl⟩) hf
      · rw [h4] at z2; exact absurd z2 (m9_m1 (by omega)).1
    · rcases hab with ⟨h1, -⟩ | ⟨k, hk, h3, h4, h6⟩
      · exact absurd h1 z2
      · subst h4; subst h6
        have rk := (hr.2 k (by omega)).1
        rw [p_1, p_1, cl_nI (by omega), cl_nI (by omega), r1, rk, nI_1]
        simp only [forall_eq]
        refine ⟨vp_nI (by omega) (by decide), vp_nI (by omega) (by decide), fun z3 => ?_, fun z3 => ?_⟩
        · refine ih (nI k) (nI k) (by omega) (Or.inr ⟨k, by omega, h3, rfl, rfl⟩) ?_
          rw [hf, show foreS B (nI c) (nI k) i = nI k from if_neg (fun q => q.2.elim (m9_m1 (by omega)).2 (fun q => q (by rw [cl_nI (by omega)]; exact z3)))]
        · refine ih (nI i) (nI i) (by omega) (Or.inr ⟨i, by omega, hbit.mp z, rfl, rfl⟩) ?_
          rw [hf, show foreS B (nI c) (nI k) i = nI i from if_pos ⟨z, Or.inr (by rw [cl_nI (by omega)]; exact z3)⟩]
