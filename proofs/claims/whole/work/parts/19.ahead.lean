/-! WHAT COMES: minutes on a trial -/
def passN (G : Blk) : Nat → Blk → Blk
  | 0, B => B
  | k + 1, B => passN G k (passB G B).1
theorem Wb.passN {G : Blk} (hW : WG G) : ∀ (k : Nat) (B : Blk) (t : Nat), Wb (nW G) B t → t + k ≤ 2000 → Wb (nW G) (passN G k B) (t + k)
  | 0, _, _, h, _ => h
  | k + 1, B, t, h, ht => by
    have := Wb.passN hW k (passB G B).1 (t + 1) (h.pass hW (by omega)) (by omega)
    rw [show t + (k + 1) = t + 1 + k by omega]
    exact this
theorem l_passMany {T : Th} {M : Mm} {y m : Nat} {G : Blk} {Q : Mm → Prop} (h7 : isX7 T y) (hG : RG M y G) (hW : WG G) (hm : m ≤ 100) :
    ∀ (n i : Nat) (B : Blk) (r : Nat → Int32) (wt : Int32) (t : Nat), i + n = m → Rw (nW G) B r → Wb (nW G) B t → t + n ≤ 2000 → (∀ r' wt', Rw (nW G) (passN G n B) r' → Q (rT M y r' wt')) → WP T mX7_passMany 2 [(0, .ref y), (1, .int (nI m)), (2, .int (nI i))] [] (rT M y r wt) (qv Q) := by
  intro n
  induction n with
  | zero =>
    intro i B r wt t hi hr hb ht hq
    exact sg_X7_passMany_2 h7 ⟨fun _ => hq r wt hr, fun z => absurd (nI_le (by omega) (by omega)) z⟩
  | succ n ih =>
    intro i B r wt t hi hr hb ht hq
    refine sg_X7_passMany_2 h7 ⟨fun z => absurd z (nI_ge (by omega) (by omega)), fun _ => ?_⟩
    refine r_pass (B := B) (t := t) h7 hG.T hW (by rw [rT_t]; exact hr) hb (by omega) (fun r' hr' => ?_)
    rw [rT_rT, nI_1]
    simp only [forall_eq]
    exact ih (i + 1) _ r' _ (t + 1) (by omega) hr' (hb.pass hW (by omega)) (by omega) hq
theorem r_passMany {T : Th} {M : Mm} {y m t : Nat} {G B : Blk} {Q : Mm → Prop} (h7 : isX7 T y) (hG : RG M y G) (hW : WG G) (hm : m ≤ 100) (hr : Rw (nW G) B (M.1 (y + 18))) (hb : Wb (nW G) B t) (ht : t + m ≤ 2000) (hq : ∀ r' wt', Rw (nW G) (passN G m B) r' → Q (rT M y r' wt')) : WPv T mX7_passMany [.ref y, .int (nI m)] M Q := by
  refine WPM.of (by decide) rfl (Nat.le_of_ble_eq_true rfl) (sg_X7_passMany_0 h7 ?_)
  have h := l_passMany (M := M) (m := m) (Q := Q) h7 hG hW hm m 0 B (M.1 (y + 18)) (M.1 y 29) t (by omega) hr hb ht hq
  rw [rT_self] at h
  exact h
section
variable {T T' : Th} {x y : Nat} {M M' : Mm}
/-- a trial becomes as now -/
theorem c_trial {G F : Blk} {S : Stt} {I : Nat → Bool × Stt} {tn : Nat} {tb : Nat → Int32} {tr : Int64} {Q : Mm → Prop} (hL : LayC T x) (hC : CI x M G F S I tn tb tr) (hq : ∀ C, Ag S.1 C → Q (wB M (x + 10) 6 C)) : WPv T mX2_copyFrom [.ref (x + 10), .ref ((x + 16) + 1)] M Q :=
  c_copyM hL.tri hL.st.2.1 hC.2.2.2.1.2.1 (by omega) (fun C c1 c2 c3 => hq C ⟨c1, c2, c3⟩)
/-- a minute of the trial -/
theorem c_passT {G F B : Blk} {S : Stt} {I : Nat → Bool × Stt} {tn : Nat} {tb : Nat → Int32} {tr : Int64} {Q : Int32 → Mm → Prop} (hL : LayC T x) (hC : CI x M G F S I tn tb tr) (hq : Q (passB G B).2 (wB M (x + 10) 6 (passB G B).1)) : WPi T mX1_pass [.ref (M.2.2 x 7), .ref (x + 10)] (wB M (x + 10) 6 B) Q :=
  c_pass (hC.isG hL) hL.tri hC.2.1 (hC.gd _ (by omega)) hq
theorem FrC.tri {B : Blk} : FrC x M (wB M (x + 10) 6 B) := wB_FrC (by omega) (by omega)
theorem l_cbehind {G F : Blk} {S : Stt} {I : Nat → Bool × Stt} {tn : Nat} {tb : Nat → Int32} {tr : Int64} {n j : Nat} {k : Int32} {Q : Int32 → Mm → Prop} (hL : LayC T x) (hC : CI x M G F S I tn tb tr) (hn : n ≤ 60) (hj : j < 5) :
    ∀ (m i : Nat) (B : Blk), i + m = n → Q (if k = 0 then passN G m B 1 j else if bget (passN G m B 0 1) j then 1 else 0) (wB M (x + 10) 6 (passN G m B)) → WP T mX6_behind 49 [(0, .ref x), (1, .int (nI n)), (2, .int (nI j)), (3, .int k), (4, .int (nI i))] [] (wB M (x + 10) 6 B) (qi Q) := by
  intro m
  induction m with
  | zero =>
    intro i B hi hq
    refine sg_X6_behind_49 hL.1 ⟨fun _ => ⟨fun z => c_isCaught hL.tri ?_, fun z => ⟨vp_nI hj (by decide), ?_⟩⟩, fun z => absurd (nI_le (by omega) (by omega)) z⟩
    · rw [w6_0]
      rw [if_neg z] at hq
      unfold bget at hq
      simp only [passN] at hq
      by_cases hb : ((B 0 1 >>> (nI j &&& 31)) &&& 1) = 1
      · simp only [hb, decide_true, if_true] at hq ⊢
        exact ⟨fun z => absurd z (by decide), fun _ => hq⟩
      · simp only [hb, decide_false, if_false] at hq ⊢
        exact ⟨fun _ => hq, fun z => absurd trivial z⟩
    · rw [cl_nI (by omega), w6_1]
      rw [if_pos z] at hq
      exact hq
  | succ m ih =>
    intro i B hi hq
    refine sg_X6_behind_49 hL.1 ⟨fun z => absurd z (nI_ge (by omega) (by omega)), fun _ => ?_⟩
    rw [nI_1]
    simp only [forall_eq]
    exact ⟨(hC.frame FrC.tri).isG hL, c_passT hL hC (ih (i + 1) _ (by omega) hq)⟩
theorem e_behind {n w k : Int32} (hL : LayC T x) (h7 : isX7 T' y) (hI : Inv x y M M') : WPi T mX6_behind [.ref x, .int n, .int w, .int k] M (fun r N => WPi T' mX7_behind [.ref y, .int n, .int w, .int k] M' (fun r' N' => r' = r ∧ Inv x y N N')) := by
  have hI' := hI
  obtain ⟨G, F, S, I, tn, tb, tr, hC, hR, hS⟩ := hI
  have h5 := nW_le G
  have hW := hS.1
  have hg := hC.isG hL
  obtain ⟨⟨t, ht, hwb⟩, hws⟩ := hS.2.2.2.1.2.1
  have bad : ¬ ((0 ≤ n ∧ n ≤ 60) ∧ hasWg G w = true ∧ 0 ≤ k ∧ k ≤ 1) → WPi T' mX7_behind [.ref y, .int n, .int w, .int k] M' (fun r' N' => r' = -1 ∧ Inv x y M N') := by
    intro hb
    refine WPM.of (by decide) rfl (Nat.le_of_ble_eq_true rfl) (sg_X7_behind_0 h7 (r_in ?_))
    by_cases hn : 0 ≤ n ∧ n ≤ 60
    · rw [if_pos hn]
      refine ⟨fun z => absurd z (by decide), fun _ => r_isWagon h7 hR.1 hW ?_⟩
      by_cases hw : hasWg G w = true
      · rw [hw]
        refine ⟨fun z => absurd z (by decide), fun _ => r_in ?_⟩
        rw [if_neg (fun q => hb ⟨hn, hw, q⟩)]
        exact ⟨fun z => absurd rfl z, fun _ => ⟨rfl, hI'⟩⟩
      · rw [show hasWg G w = false by simpa using hw]
        exact ⟨fun _ => ⟨rfl, hI'⟩, fun z => absurd rfl z⟩
    · rw [if_neg hn]
      exact ⟨fun _ => ⟨rfl, hI'⟩, fun z => absurd rfl z⟩
  refine WPM.of (by decide) rfl (Nat.le_of_ble_eq_true rfl) (sg_X6_behind_0 hL.1 ?_)
  refine ⟨fun z => bad (by grind), fun z => ⟨fun z2 => bad (by grind), fun z2 => ?_⟩⟩
  simp only [forall_eq]
  refine ⟨hg, c_hasWagon hg hC.2.1 ?_⟩
  by_cases hw : hasWg G w = true
  · rw [hw]
    refine ⟨fun z => absurd z (by decide), fun _ => ⟨fun z3 => bad (by grind), fun z3 => ⟨fun z4 => ?_, fun z4 => bad (by grind)⟩⟩⟩
    have hn : 0 ≤ n ∧ n ≤ 60 := by grind
    have hk : 0 ≤ k ∧ k ≤ 1 := by grind
    obtain ⟨j, hj, rfl, hj5⟩ := hasWg_nI hW hw
    obtain ⟨m, hm, rfl⟩ := nI_of2 (M := 60) (n := 60) rfl (Int32.not_lt.mpr hn.1) hn.2
    refine c_trial hL hC (fun C ag => ?_)
    refine l_cbehind hL hC hm hj5 m 0 C (by omega) ?_
    refine WPM.of (by decide) rfl (Nat.le_of_ble_eq_true rfl) (sg_X7_behind_0 h7 (r_in ?_))
    rw [if_pos hn]
    refine ⟨fun z => absurd z (by decide), fun _ => r_isWagon h7 hR.1 hW ?_⟩
    rw [hw]
    refine ⟨fun z => absurd z (by decide), fun _ => r_in ?_⟩
    rw [if_pos hk]
    refine ⟨fun _ => r_toThen h7 (fun r2 hr2 => ?_), fun z => absurd z (by decide)⟩
    have hwb2 := hwb.ag h5 ag
    have hrw : Rw (nW G) C r2 := (hR.2.2.2.1.1.cong h5 hr2).ag h5 ag
    refine r_passMany (t := t) h7 hR.1.T hW (by omega) (by rw [rT_t]; exact hrw) hwb2 (by omega) (fun r3 wt3 hr3 => ?_)
    rw [rT_rT, rT_t, p_21, p_1, cl_nI (by omega), cl_nI (by omega)]
    obtain ⟨a1, a2, a3, a4, a5, a6⟩ := hr3.2 j hj
    have hI3 : Inv x y (wB M (x + 10) 6 (passN G m C)) (rT M' y r3 wt3) := ⟨G, F, S, I, tn, tb, tr, hC.frame FrC.tri, hR.frame rT_FrR, hS⟩
    refine ⟨fun z => ⟨vp_nI (by omega) (by decide), ?_, hI3⟩, fun z => ⟨vp_nI (by omega) (by decide), ?_, hI3⟩⟩
    · rw [if_neg z]; exact a6
    · rw [if_pos z]; exact a1
  · rw [show hasWg G w = false by simpa using hw]
    exact ⟨fun _ => bad (fun q => hw q.2.1), fun z => absurd rfl z⟩
/-! the first that is caught -/
def leastF (b : Int32) : Nat → Nat → Int32
  | _, 0 => -9
  | i, n + 1 => if ((b >>> (nI i &&& 31)) &&& 1) = 1 then nI i else leastF b (i + 1) n
theorem l_least {b : Int32} {Q : Int32 → Mm → Prop} : ∀ (n i : Nat), i + n = 5 → Q (leastF b i n) M → WP T mX6_leastOf 2 [(0, .int b), (1, .int (nI i))] [] M (qi Q) := by
  intro n
  induction n with
  | zero =>
    intro i hi hq
    exact sg_X6_leastOf_2 ⟨fun _ => hq, fun z => absurd (nI_le (a := 5) (by omega) (by omega)) z⟩
  | succ n ih =>
    intro i hi hq
    refine sg_X6_leastOf_2 ⟨fun z => absurd z (nI_ge (b := 5) (by omega) (by omega)), fun _ => ⟨fun z => ?_, fun z => ?_⟩⟩
    · rw [nI_1]; simp only [forall_eq]
      refine ih (i + 1) (by omega) ?_
      simp only [leastF] at hq
      rw [if_neg z] at hq; exact hq
    · simp only [leastF] at hq
      rw [if_pos z] at hq; exact hq
theorem c_least {b : Int32} {Q : Int32 → Mm → Prop} (hq : Q (leastF b 0 5) M) : WPi T mX6_leastOf [.int b] M Q :=
  WPM.of (by decide) rfl (Nat.le_of_ble_eq_true rfl) (sg_X6_leastOf_0 (l_least 5 0 (by omega) hq))
theorem bit_one : ∀ c, c < 32 → ∀ w, w < 5 → (¬ ((nI c >>> (nI w &&& 31)) &&& 1) = 0 ↔ ((nI c >>> (nI w &&& 31)) &&& 1) = 1) := by decide +kernel
theorem bit_any : ∀ c, c < 32 → ¬ c = 0 → ∃ w, w < 5 ∧ ((nI c >>> (nI w &&& 31)) &&& 1) = 1 := by decide +kernel
theorem more_bits : ∀ c, c < 32 → ∀ d, d < 32 → nI c &&& (nI d ^^^ (-1)) = nI (c &&& (31 ^^^ d)) ∧ c &&& (31 ^^^ d) < 32 := by decide +kernel
theorem l_rleast {c : Nat} {k tt : Int32} {Q : Int32 → Mm → Prop} (hc : c < 32) : ∀ (n i : Nat), i + n = 5 → (∃ w, i ≤ w ∧ w < 5 ∧ ((nI c >>> (nI w &&& 31)) &&& 1) = 1) → Q (if k = 0 then tt else leastF (nI c) i n) M → WP T mX7_caught 50 [(1, .int k), (3, .int tt), (4, .int (nI c)), (5, .int (nI i))] [] M (qi Q) := by
  intro n
  induction n with
  | zero => intro i hi hx; obtain ⟨w, h1, h2, -⟩ := hx; omega
  | succ n ih =>
    intro i hi hx hq
    simp only [leastF] at hq
    refine sg_X7_caught_50 ⟨fun z => ?_, fun z => ?_⟩
    · rw [if_pos ((bit_one c hc i (by omega)).mp z)] at hq
      exact ⟨fun z2 => by rw [if_neg z2] at hq; exact hq, fun z2 => by rw [if_pos z2] at hq; exact hq⟩
    · have hz : ¬ ((nI c >>> (nI i &&& 31)) &&& 1) = 1 := by rw [z]; decide
      rw [if_neg hz] at hq
      rw [nI_1]; simp only [forall_eq]
      refine ih (i + 1) (by omega) ?_ hq
      obtain ⟨w, h1, h2, h3⟩ := hx
      refine ⟨w, ?_, h2, h3⟩
      by_cases e : w = i
      · subst e; exact absurd h3 hz
      · omega
/-- how many minutes, who; the blocks behind -/
def caughtF (G : Blk) (had k : Int32) : Nat → Nat → Blk → Int32 × Blk
  | 0, _, B => (-9, B)
  | m + 1, t, B => if (passB G B).1 0 1 &&& (had ^^^ (-1)) = 0 then caughtF G had k m (t + 1) (passB G B).1 else (if k = 0 then nI t else leastF ((passB G B).1 0 1 &&& (had ^^^ (-1))) 0 5, (passB G B).1)
theorem l_ccaught {G F : Blk} {S : Stt} {I : Nat → Bool × Stt} {tn : Nat} {tb : Nat → Int32} {tr : Int64} {k : Int32} {Q : Int32 → Mm → Prop} (hL : LayC T x) (hC : CI x M G F S I tn tb tr) :
    ∀ (m t : Nat) (B : Blk), t + m = 61 → Q (caughtF G (S.1 0 1) k m t B).1 (wB M (x + 10) 6 (caughtF G (S.1 0 1) k m t B).2) → WP T mX6_caught 27 [(0, .ref x), (1, .int k), (2, .int (nI t))] [] (wB M (x + 10) 6 B) (qi Q) := by
  intro m
  induction m with
  | zero =>
    intro t B ht hq
    exact sg_X6_caught_27 hL.1 ⟨fun _ => hq, fun z => absurd (nI_lt (a := 60) (by omega) (by omega)) z⟩
  | succ m ih =>
    intro t B ht hq
    refine sg_X6_caught_27 hL.1 ⟨fun z => absurd z (nI_nlt (a := 60) (by omega) (by omega)), fun _ => ?_⟩
    rw [nI_1]
    simp only [forall_eq]
    refine ⟨(hC.frame FrC.tri).isG hL, c_passT hL hC ?_⟩
    have hN : (wB M (x + 10) 6 (passB G B).1).1 ((x + 16) + 1) = S.1 0 := by rw [wB_out (by omega)]; exact hC.2.2.2.1.2.1.z
    rw [w6_0, hN]
    simp only [caughtF] at hq
    refine ⟨fun z => ?_, fun z => ⟨fun z2 => c_least ?_, fun z2 => ?_⟩⟩
    · rw [if_pos z] at hq; exact ih (t + 1) _ (by omega) hq
    · rw [if_neg z, if_neg z2] at hq; exact hq
    · rw [if_neg z, if_pos z2] at hq; exact hq
theorem l_rcaught {G : Blk} {c : Nat} {k : Int32} {Q : Int32 → Mm → Prop} (h7 : isX7 T' y) (hG : RG M' y G) (hW : WG G) (hc : c < 32) :
    ∀ (m t : Nat) (B : Blk) (r : Nat → Int32) (wt : Int32) (q : Nat), t + m = 61 → Rw (nW G) B r → Wb (nW G) B q → q + m ≤ 2000 → (∀ r' wt', Q (caughtF G (nI c) k m t B).1 (rT M' y r' wt')) → WP T' mX7_caught 22 [(0, .ref y), (1, .int k), (2, .int (nI c)), (3, .int (nI t))] [] (rT M' y r wt) (qi Q) := by
  have h5 := nW_le G
  intro m
  induction m with
  | zero =>
    intro t B r wt q ht hr hb hq1 hq
    exact sg_X7_caught_22 h7 ⟨fun _ => hq r wt, fun z => absurd (nI_lt (a := 60) (by omega) (by omega)) z⟩
  | succ m ih =>
    intro t B r wt q ht hr hb hq1 hq
    refine sg_X7_caught_22 h7 ⟨fun z => absurd z (nI_nlt (a := 60) (by omega) (by omega)), fun _ => ?_⟩
    refine r_pass (B := B) (t := q) h7 hG.T hW (by rw [rT_t]; exact hr) hb (by omega) (fun r' hr' => ?_)
    have hb2 := hb.pass hW (by omega)
    rw [rT_rT]
    refine r_cau (B := (passB G B).1) h7 hG.T hW (by rw [rT_t]; exact hr') hb2.2.1 ?_
    simp only [caughtF] at hq
    rw [nI_1]
    simp only [forall_eq]
    obtain ⟨d, d1, d2⟩ := hb2.2.1
    have hmb := more_bits d (mask_32 h5 d1) c hc
    refine ⟨fun z => ?_, fun z => ?_⟩
    · simp only [z, if_true] at hq
      exact ih (t + 1) _ r' _ (q + 1) (by omega) hr' hb2 (by omega) hq
    · simp only [z, if_false] at hq
      rw [d2, hmb.1] at hq z ⊢
      have hne : ¬ d &&& (31 ^^^ c) = 0 := fun e => z (by rw [e]; rfl)
      obtain ⟨w, w1, w2⟩ := bit_any _ hmb.2 hne
      exact l_rleast hmb.2 5 0 (by omega) ⟨w, by omega, w1, w2⟩ (hq r' _)
theorem e_caught {k : Int32} (hL : LayC T x) (h7 : isX7 T' y) (hI : Inv x y M M') : WPi T mX6_caught [.ref x, .int k] M (fun r N => WPi T' mX7_caught [.ref y, .int k] M' (fun r' N' => r' = r ∧ Inv x y N N')) := by
  have hI' := hI
  obtain ⟨G, F, S, I, tn, tb, tr, hC, hR, hS⟩ := hI
  have h5 := nW_le G
  have hW := hS.1
  obtain ⟨⟨t, ht, hwb⟩, hws⟩ := hS.2.2.2.1.2.1
  have bad : ¬ (0 ≤ k ∧ k ≤ 1) → WPi T' mX7_caught [.ref y, .int k] M' (fun r' N' => r' = -1 ∧ Inv x y M N') := by
    intro hb
    refine WPM.of (by decide) rfl (Nat.le_of_ble_eq_true rfl) (sg_X7_caught_0 h7 (r_in ?_))
    rw [if_neg hb]
    exact ⟨fun z => absurd rfl z, fun _ => ⟨rfl, hI'⟩⟩
  refine WPM.of (by decide) rfl (Nat.le_of_ble_eq_true rfl) (sg_X6_caught_0 hL.1 ?_)
  refine ⟨fun z => bad (by grind), fun z => ⟨fun z2 => c_trial hL hC (fun C ag => ?_), fun z2 => bad (by grind)⟩⟩
  have hk : 0 ≤ k ∧ k ≤ 1 := by grind
  refine l_ccaught hL hC 60 1 C (by omega) ?_
  obtain ⟨c, c1, c2⟩ := hwb.2.1
  refine WPM.of (by decide) rfl (Nat.le_of_ble_eq_true rfl) (sg_X7_caught_0 h7 (r_in ?_))
  rw [if_pos hk]
  refine ⟨fun _ => r_toThen h7 (fun r2 hr2 => ?_), fun z => absurd z (by decide)⟩
  have hrw0 : Rw (nW G) S.1 r2 := hR.2.2.2.1.1.cong h5 hr2
  refine r_cau (B := S.1) h7 hR.1.T hW (by rw [rT_t]; exact hrw0) hwb.2.1 ?_
  rw [c2]
  refine l_rcaught h7 hR.1 hW (mask_32 h5 c1) 60 1 C r2 _ t (by omega) (hrw0.ag h5 ag) (hwb.ag h5 ag) (by omega) (fun r' wt' => ⟨rfl, G, F, S, I, tn, tb, tr, hC.frame FrC.tri, hR.frame rT_FrR, hS⟩)
/-! the first that waits -/
def waitF (G : Blk) (k : Int32) : Nat → Nat → Blk → Int32 × Blk
  | 0, _, B => (-9, B)
  | m + 1, t, B => if (passB G B).2 = -1 then waitF G k m (t + 1) (passB G B).1 else (if k = 0 then nI t else (passB G B).2, (passB G B).1)
theorem l_cwaits {G F : Blk} {S : Stt} {I : Nat → Bool × Stt} {tn : Nat} {tb : Nat → Int32} {tr : Int64} {k : Int32} {Q : Int32 → Mm → Prop} (hL : LayC T x) (hC : CI x M G F S I tn tb tr) :
    ∀ (m t : Nat) (B : Blk), t + m = 61 → Q (waitF G k m t B).1 (wB M (x + 10) 6 (waitF G k m t B).2) → WP T mX6_waits 27 [(0, .ref x), (1, .int k), (2, .int (nI t))] [] (wB M (x + 10) 6 B) (qi Q) := by
  intro m
  induction m with
  | zero =>
    intro t B ht hq
    exact sg_X6_waits_27 hL.1 ⟨fun _ => hq, fun z => absurd (nI_lt (a := 60) (by omega) (by omega)) z⟩
  | succ m ih =>
    intro t B ht hq
    refine sg_X6_waits_27 hL.1 ⟨fun z => absurd z (nI_nlt (a := 60) (by omega) (by omega)), fun _ => ?_⟩
    rw [nI_1]
    simp only [forall_eq]
    refine ⟨(hC.frame FrC.tri).isG hL, c_passT hL hC ?_⟩
    simp only [waitF] at hq
    refine ⟨fun z => ?_, fun z => ⟨fun z2 => ?_, fun z2 => ?_⟩⟩
    · rw [if_pos z] at hq; exact ih (t + 1) _ (by omega) hq
    · rw [if_neg z, if_neg z2] at hq; exact hq
    · rw [if_neg z, if_pos z2] at hq; exact hq
theorem pass_wt (G B : Blk) : (passB G B).2 = -1 ∨ ∃ k, k < 5 ∧ (passB G B).2 = nI k := by
  have h5 := nW_le G
  have key : ∀ (n i : Nat) (s : Blk × Int32 × Int32), (s.2.2 = -1 ∨ ∃ k, k < 5 ∧ s.2.2 = nI k) → ((foldF (passS G) i n s).2.2 = -1 ∨ ∃ k, k < 5 ∧ (foldF (passS G) i n s).2.2 = nI k) := by
    intro n
    induction n with
    | zero => intro i s h; exact h
    | succ n ih =>
      intro i s h
      simp only [foldF]
      refine ih (i + 1) _ ?_
      unfold passS
      by_cases hf : foreB G s.1 s.2.1 = -1
      · simp only [hf, if_true]; exact h
      · simp only [hf, if_false]
        split
        · rcases fore_in s.1 s.2.1 (nW G) 0 (-1) (by omega) (Or.inl rfl) with e | e
          · exact Or.inl e
          · exact Or.inr e
        · exact h
  exact key (nW G) 0 (B, 0, -1) (Or.inl rfl)
theorem l_rwaits {G : Blk} {k : Int32} {Q : Int32 → Mm → Prop} (h7 : isX7 T' y) (hG : RG M' y G) (hW : WG G) :
    ∀ (m t : Nat) (B : Blk) (r : Nat → Int32) (wt : Int32) (q : Nat), t + m = 61 → Rw (nW G) B r → Wb (nW G) B q → q + m ≤ 2000 → (∀ r' wt', Q (waitF G k m t B).1 (rT M' y r' wt')) → WP T' mX7_waits 17 [(0, .ref y), (1, .int k), (2, .int (nI t))] [] (rT M' y r wt) (qi Q) := by
  intro m
  induction m with
  | zero =>
    intro t B r wt q ht hr hb hq1 hq
    exact sg_X7_waits_17 h7 ⟨fun _ => hq r wt, fun z => absurd (nI_lt (a := 60) (by omega) (by omega)) z⟩
  | succ m ih =>
    intro t B r wt q ht hr hb hq1 hq
    refine sg_X7_waits_17 h7 ⟨fun z => absurd z (nI_nlt (a := 60) (by omega) (by omega)), fun _ => ?_⟩
    refine r_pass (B := B) (t := q) h7 hG.T hW (by rw [rT_t]; exact hr) hb (by omega) (fun r' hr' => ?_)
    have hb2 := hb.pass hW (by omega)
    have hcw := cw_eq (pass_wt G B)
    rw [rT_rT, rT_w, nI_1]
    simp only [forall_eq]
    simp only [waitF] at hq
    refine ⟨fun z => ?_, fun z => ?_⟩
    · simp only [hcw.mp z, if_true] at hq
      exact ih (t + 1) _ r' _ (q + 1) (by omega) hr' hb2 (by omega) hq
    · have hn : ¬ (passB G B).2 = -1 := fun e => z (hcw.mpr e)
      simp only [hn, if_false] at hq
      have e : cw (passB G B).2 = (passB G B).2 := if_neg hn
      rw [e]
      rw [e] at z
      refine ⟨fun z2 => ?_, fun z2 => ?_⟩
      · have h := hq r' (passB G B).2; rw [if_neg z2] at h; exact h
      · have h := hq r' (passB G B).2; rw [if_pos z2] at h; exact h
theorem e_waits {k : Int32} (hL : LayC T x) (h7 : isX7 T' y) (hI : Inv x y M M') : WPi T mX6_waits [.ref x, .int k] M (fun r N => WPi T' mX7_waits [.ref y, .int k] M' (fun r' N' => r' = r ∧ Inv x y N N')) := by
  have hI' := hI
  obtain ⟨G, F, S, I, tn, tb, tr, hC, hR, hS⟩ := hI
  have h5 := nW_le G
  have hW := hS.1
  obtain ⟨⟨t, ht, hwb⟩, hws⟩ := hS.2.2.2.1.2.1
  have bad : ¬ (0 ≤ k ∧ k ≤ 1) → WPi T' mX7_waits [.ref y, .int k] M' (fun r' N' => r' = -1 ∧ Inv x y M N') := by
    intro hb
    refine WPM.of (by decide) rfl (Nat.le_of_ble_eq_true rfl) (sg_X7_waits_0 h7 (r_in ?_))
    rw [if_neg hb]
    exact ⟨fun z => absurd rfl z, fun _ => ⟨rfl, hI'⟩⟩
  refine WPM.of (by decide) rfl (Nat.le_of_ble_eq_true rfl) (sg_X6_waits_0 hL.1 ?_)
  refine ⟨fun z => bad (by grind), fun z => ⟨fun z2 => c_trial hL hC (fun C ag => ?_), fun z2 => bad (by grind)⟩⟩
  have hk : 0 ≤ k ∧ k ≤ 1 := by grind
  refine l_cwaits hL hC 60 1 C (by omega) ?_
  refine WPM.of (by decide) rfl (Nat.le_of_ble_eq_true rfl) (sg_X7_waits_0 h7 (r_in ?_))
  rw [if_pos hk]
  refine ⟨fun _ => r_toThen h7 (fun r2 hr2 => ?_), fun z => absurd z (by decide)⟩
  have hrw0 : Rw (nW G) S.1 r2 := hR.2.2.2.1.1.cong h5 hr2
  exact l_rwaits h7 hR.1 hW 60 1 C r2 _ t (by omega) (hrw0.ag h5 ag) (hwb.ag h5 ag) (by omega) (fun r' wt' => ⟨rfl, G, F, S, I, tn, tb, tr, hC.frame FrC.tri, hR.frame rT_FrR, hS⟩)
end
