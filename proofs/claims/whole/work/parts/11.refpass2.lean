theorem catch_bits : ∀ c, c < 32 → ∀ w, w < 5 → ∀ u, u < 5 → bget (nI c ||| (1 <<< (nI w &&& 31))) u = (bget (nI c) u || decide (u = w)) := by decide +kernel
theorem mask_bits : ∀ n, n ≤ 5 → ∀ c, c < 2 ^ n → ∀ w, w < n → c ||| 2 ^ w < 2 ^ n := by decide +kernel
theorem mask_32 {n c : Nat} (hn : n ≤ 5) (h : c < 2 ^ n) : c < 32 := Nat.lt_of_lt_of_le h (Nat.pow_le_pow_right (by decide) hn)
def Wc (n : Nat) (B : Blk) : Prop := ∃ c, c < 2 ^ n ∧ B 0 1 = nI c
/-- a moment as it must be, in minute t -/
def Wb (n : Nat) (B : Blk) (t : Nat) : Prop := B 0 0 = nI t ∧ Wc n B ∧ Wk n B (nI (20 + 5 * t))
theorem Wk.mono {n : Nat} {B : Blk} {K K' : Int32} (h : Wk n B K) (hk : K ≤ K') : Wk n B K' := fun w hw => by
  obtain ⟨a, b, c⟩ := h w hw
  exact ⟨a, Int32.le_trans b hk, c⟩
theorem Wk.row {n : Nat} {B C : Blk} {K : Int32} (h : Wk n B K) (h1 : C 1 = B 1) (h3 : C 3 = B 3) : Wk n C K := fun w hw => by rw [h1, h3]; exact h w hw
theorem catch_row {y : Int32} {B : Blk} {w j : Nat} (hj : j ≠ 0) : catchS y B w j = B j := by
  unfold catchS; split
  · funext k; simp [ub, hj]
  · rfl
theorem catch_00 {y : Int32} {B : Blk} {w : Nat} : catchS y B w 0 0 = B 0 0 := by
  unfold catchS; split
  · simp [ub]
  · rfl
theorem catch_c {n : Nat} {y : Int32} {B : Blk} {w : Nat} (hn : n ≤ 5) (h : Wc n B) (hw : w < n) : Wc n (catchS y B w) := by
  unfold catchS; split
  · obtain ⟨c, hc, e⟩ := h
    exact ⟨c ||| 2 ^ w, mask_bits n hn c hc w hw, by rw [ub_s, e]; exact (gone_bits c (mask_32 hn hc) w (by omega)).2.1⟩
  · exact h
theorem catchF {n : Nat} {y : Int32} (hn : n ≤ 5) : ∀ (k i : Nat) (B : Blk), i + k ≤ n → Wc n B → (∀ j, j ≠ 0 → foldF (catchS y) i k B j = B j) ∧ foldF (catchS y) i k B 0 0 = B 0 0 ∧ Wc n (foldF (catchS y) i k B)
  | 0, _, _, _, h => ⟨fun _ _ => rfl, rfl, h⟩
  | k + 1, i, B, hk, h => by
    simp only [foldF]
    obtain ⟨a, b, c⟩ := catchF hn k (i + 1) (catchS y B i) (by omega) (catch_c hn h (by omega))
    exact ⟨fun j hj => by rw [a j hj, catch_row hj], by rw [b, catch_00], c⟩
theorem passF {G : Blk} (hW : WG G) : ∀ (k i : Nat) (s : Blk × Int32 × Int32) (K : Nat), i + k ≤ nW G → Wk (nW G) s.1 (nI K) → K + k ≤ 30000 → Wk (nW G) (foldF (passS G) i k s).1 (nI (K + k)) ∧ (foldF (passS G) i k s).1 0 = s.1 0
  | 0, _, _, _, _, h, _ => ⟨h, rfl⟩
  | k + 1, i, s, K, hk, h, hK => by
    simp only [foldF]
    have h5 := nW_le G
    have key : Wk (nW G) (passS G s i).1 (nI (K + 1)) ∧ (passS G s i).1 0 = s.1 0 := by
      unfold passS
      by_cases hf : foreB G s.1 s.2.1 = -1
      · simp only [hf, if_true]
        exact ⟨h.mono (nI_le (by omega) (by omega)), trivial⟩
      · simp only [hf, if_false]
        have hin : ∃ q, q < nW G ∧ foreB G s.1 s.2.1 = nI q := by
          have gen : ∀ (n j : Nat) (b : Int32), j + n ≤ nW G → (b = -1 ∨ ∃ q, q < nW G ∧ b = nI q) → (foldF (foreS s.1 s.2.1) j n b = -1 ∨ ∃ q, q < nW G ∧ foldF (foreS s.1 s.2.1) j n b = nI q) := by
            intro n
            induction n with
            | zero => intro j b _ hb; exact hb
            | succ n ih =>
              intro j b hj hb
              simp only [foldF]
              refine ih (j + 1) _ (by omega) ?_
              unfold foreS; split
              · exact Or.inr ⟨j, by omega, rfl⟩
              · exact hb
          rcases gen (nW G) 0 (-1) (by omega) (Or.inl rfl) with e | e
          · exact absurd e hf
          · exact e
        obtain ⟨q, hq, e⟩ := hin
        rw [e, cl_nI (by omega)]
        refine ⟨?_, go_01 _ _ _⟩
        have := Wk.go (K := nI K) hW h (nI_le (b := 30000) (by omega) (by omega)) hq
        rw [nI_1] at this
        exact this
    obtain ⟨a, b⟩ := passF hW k (i + 1) (passS G s i) (K + 1) (by omega) key.1 (by omega)
    exact ⟨by rw [show K + (k + 1) = K + 1 + k by omega]; exact a, b.trans key.2⟩
theorem Wb.pass {G B : Blk} {t : Nat} (hW : WG G) (hb : Wb (nW G) B t) (ht : t ≤ 2000) : Wb (nW G) (passB G B).1 (t + 1) := by
  have h5 := nW_le G
  obtain ⟨h1, h2, h3⟩ := hb
  obtain ⟨a, b⟩ := passF hW (nW G) 0 (B, 0, -1) (20 + 5 * t) (by omega) h3 (by omega)
  have hc : Wc (nW G) (ub (foldF (passS G) 0 (nW G) (B, 0, -1)).1 0 0 ((foldF (passS G) 0 (nW G) (B, 0, -1)).1 0 0 + 1)) := by
    obtain ⟨c, q1, q2⟩ := h2
    exact ⟨c, q1, by rw [ub_n _ _ (by omega), b]; exact q2⟩
  have f := catchF (y := sunW G ((ub (foldF (passS G) 0 (nW G) (B, 0, -1)).1 0 0 ((foldF (passS G) 0 (nW G) (B, 0, -1)).1 0 0 + 1)) 0 0) (G 0 2)) h5 (nW G) 0 _ (by omega) hc
  refine ⟨?_, f.2.2, ?_⟩
  · refine f.2.1.trans ?_
    rw [ub_s, b]
    show B 0 0 + 1 = _
    rw [h1, nI_1]
  · refine (a.mono (nI_le (by omega) (by omega))).row ?_ ?_
    · refine (f.1 1 (by decide)).trans ?_
      funext k; simp [ub]
    · refine (f.1 3 (by decide)).trans ?_
      funext k; simp [ub]
theorem Rw.uc {n w : Nat} {B : Blk} {r : Nat → Int32} (h : Rw n B r) (hn : n ≤ 5) (hc : Wc n B) (hw : w < n) : Rw n (ub B 0 1 (B 0 1 ||| (1 <<< (nI w &&& 31)))) (upd r (21 + w) 1) := by
  obtain ⟨c, hc1, hc2⟩ := hc
  refine ⟨by have := h.1; simp only [upd, ub]; grind, fun u hu => ?_⟩
  have h2 := h.2 u hu
  have hb := catch_bits c (mask_32 hn hc1) w (by omega) u (by omega)
  have e : ub B 0 1 (B 0 1 ||| (1 <<< (nI w &&& 31))) 0 1 = nI c ||| (1 <<< (nI w &&& 31)) := by rw [ub_s, hc2]
  rw [e, hb]
  rw [hc2] at h2
  refine ⟨?_, ?_, ?_, ?_, ?_, ?_⟩
  · simp only [upd, ub]; grind
  · simp only [upd, ub]; grind
  · simp only [upd, ub]; grind
  · simp only [upd, ub]; grind
  · simp only [upd, ub]; grind
  · by_cases huw : u = w
    · subst huw; simp [upd]
    · rw [upd_nm _ _ (by omega), h2.2.2.2.2.2]; simp [huw]
theorem l_rcatch {T : Th} {M : Mm} {y : Nat} {G : Blk} {wt s : Int32} {Q : Mm → Prop} (h0 : isX7 T y) (hG : RG M y G) (hW : WG G) :
    ∀ (n i : Nat) (B : Blk) (r : Nat → Int32), i + n = nW G → Rw (nW G) B r → Wc (nW G) B → s = sunW G (B 0 0) (G 0 2) → (∀ r', Rw (nW G) (foldF (catchS s) i n B) r' → Q (rT M y r' wt)) → WP T mX7_pass 110 [(0, .ref y), (2, .int (nI i))] [] (rT M y r wt) (qv Q) := by
  have h5 := nW_le G
  intro n
  induction n with
  | zero =>
    intro i B r hi hr hc hs hq
    refine sg_X7_pass_110 h0 ?_
    rw [rT_a 7 (by decide) (by decide), hG.2.2.2.2.1, hW.2.1]
    exact ⟨fun _ => hq r hr, fun z => absurd (nI_le (by omega) (by omega)) z⟩
  | succ n ih =>
    intro i B r hi hr hc hs hq
    refine sg_X7_pass_110 h0 ?_
    rw [rT_a 7 (by decide) (by decide), hG.2.2.2.2.1, hW.2.1]
    simp only [foldF] at hq
    obtain ⟨r1, r2, r3, r4, r5, r6⟩ := hr.2 i (by omega)
    refine ⟨fun z => absurd z (nI_ge (by omega) (by omega)), fun _ => ?_⟩
    rw [p_1, p_21, cl_nI (by omega), cl_nI (by omega), rT_t, r1, hr.1]
    refine ⟨vp_nI (by omega) (by decide), r_sunAt h0 hG.T hW ?_⟩
    rw [← hs, nI_1]
    simp only [forall_eq, rT_st, rT_t]
    have ih := ih (i + 1)
    refine ⟨fun z => ⟨vp_nI (by omega) (by decide), vp_nI (by omega) (by decide), ?_⟩, fun z => ⟨vp_nI (by omega) (by decide), ?_⟩⟩
    · rw [show upd r (21 + i) (r (21 + i)) = r from by funext k; simp only [upd]; split <;> simp [*]]
      rw [show catchS s B i = B from if_neg (Int32.not_le.mpr z)] at hq
      exact ih B r (by omega) hr hc hs hq
    · have hcc := catch_c (y := s) h5 hc (show i < nW G by omega)
      rw [show catchS s B i = _ from if_pos (Int32.not_lt.mp z)] at hq hcc
      exact ih _ _ (by omega) (hr.uc h5 hc (by omega)) hcc (by rw [ub_n _ _ (by omega)]; exact hs) hq
def cw (x : Int32) : Int32 := if x = -1 then -9 else x
theorem cw_eq {x : Int32} (h : x = -1 ∨ ∃ k, k < 5 ∧ x = nI k) : cw x = -9 ↔ x = -1 := by
  unfold cw
  rcases h with h | ⟨k, hk, h⟩
  · subst h; simp
  · have := m9_m1 hk
    rw [h, if_neg this.2]
    exact ⟨fun e => absurd e this.1, fun e => absurd e this.2⟩
theorem l_rpass {T : Th} {M : Mm} {y : Nat} {G : Blk} {Q : Mm → Prop} (h0 : isX7 T y) (hG : RG M y G) (hW : WG G) :
    ∀ (n i : Nat) (B : Blk) (r : Nat → Int32) (c K : Nat) (wt : Int32), i + n = nW G → Rw (nW G) B r → Wc (nW G) B → Wk (nW G) B (nI K) → K + n ≤ 30000 → c < 32 → cnt5 c (nW G) = i → (wt = -1 ∨ ∃ k, k < 5 ∧ wt = nI k) →
      (∀ r', Rw (nW G) (catchB G (ub (foldF (passS G) i n (B, nI c, wt)).1 0 0 ((foldF (passS G) i n (B, nI c, wt)).1 0 0 + 1))) r' → Q (rT M y r' (cw (foldF (passS G) i n (B, nI c, wt)).2.2))) → WP T mX7_pass 10 [(0, .ref y), (1, .int (nI c)), (2, .int (nI i))] [] (rT M y r (cw wt)) (qv Q) := by
  have h5 := nW_le G
  intro n
  induction n with
  | zero =>
    intro i B r c K wt hi hr hc hk hK hc32 hcnt hwt hq
    refine sg_X7_pass_10 h0 ?_
    rw [rT_a 7 (by decide) (by decide), hG.2.2.2.2.1, hW.2.1]
    refine ⟨fun _ => ?_, fun z => absurd (nI_le (by omega) (by omega)) z⟩
    intro M1 e
    rw [e, rT_st, rT_t]
    simp only [foldF] at hq
    have hr' := hr.u0 (v := B 0 0 + 1)
    have hc' : Wc (nW G) (ub B 0 0 (B 0 0 + 1)) := by
      obtain ⟨c, q1, q2⟩ := hc
      exact ⟨c, q1, by rw [ub_n _ _ (by omega)]; exact q2⟩
    rw [hr.1]
    exact l_rcatch h0 hG hW (nW G) 0 _ _ (by omega) hr' hc' rfl hq
  | succ n ih =>
    intro i B r c K wt hi hr hc hk hK hc32 hcnt hwt hq
    refine sg_X7_pass_10 h0 ?_
    rw [rT_a 7 (by decide) (by decide), hG.2.2.2.2.1, hW.2.1]
    refine ⟨fun z => absurd z (nI_ge (by omega) (by omega)), fun _ => ?_⟩
    simp only [foldF] at hq
    have hfree := cnt_free (nW G) h5 c hc32 (by omega)
    refine l_first (B := B) h0 hG.T hW (by rw [rT_t]; exact hr) hc32 hfree (fun k hk1 hkb hfore v1 e => ?_) (nW G) 0 (-9) (-1) (by omega) (Or.inl ⟨rfl, rfl, fun w hw => by omega⟩) rfl
    have hf1 : ¬ foreB G B (nI c) = -1 := by rw [hfore]; exact (m9_m1 (by omega)).2
    rw [show passS G (B, nI c, wt) i = _ from if_neg hf1] at hq
    simp only [hfore] at hq
    rw [cl_nI (by omega), (gone_bits c hc32 k (by omega)).2.1] at hq
    refine r_move h0 hG hW hr hk (nI_le (b := 30000) (by omega) (by omega)) hk1 (fun r' hr' => ?_)
    intro v3 e3
    rw [e, e3, nI_1, (gone_bits c hc32 k (by omega)).2.1]
    have hkk := Wk.go (K := nI K) hW hk (nI_le (b := 30000) (by omega) (by omega)) hk1
    rw [nI_1] at hkk
    have hcc : Wc (nW G) (goB G B k).1 := by
      obtain ⟨c, q1, q2⟩ := hc
      exact ⟨c, q1, by rw [go_01]; exact q2⟩
    have hcw : (if (goB G B k).2 = 0 ∧ cw wt = -9 then nI k else cw wt) = cw (if (goB G B k).2 = 0 ∧ wt = -1 then nI k else wt) := by
      have hcq := cw_eq hwt
      by_cases hcond : (goB G B k).2 = 0 ∧ wt = -1
      · rw [if_pos hcond, if_pos ⟨hcond.1, hcq.mpr hcond.2⟩]; unfold cw; rw [if_neg (m9_m1 (by omega)).2]
      · rw [if_neg hcond, if_neg (fun q => hcond ⟨q.1, hcq.mp q.2⟩)]
    rw [hcw]
    refine ih (i + 1) _ r' _ (K + 1) _ (by omega) hr' hcc hkk (by omega) (gone_bits c hc32 k (by omega)).2.2 ?_ ?_ hq
    · rw [cnt_bits (nW G) h5 c hc32 k hk1 hkb]; omega
    · split
      · exact Or.inr ⟨k, by omega, rfl⟩
      · exact hwt
/-- a minute of the reference is a minute of the class -/
theorem r_pass {T : Th} {M : Mm} {y t : Nat} {G B : Blk} {Q : Mm → Prop} (h0 : isX7 T y) (hG : RG M y G) (hW : WG G) (hr : Rw (nW G) B (M.1 (y + 18))) (hb : Wb (nW G) B t) (ht : t ≤ 2000)
    (hq : ∀ r', Rw (nW G) (passB G B).1 r' → Q (rT M y r' (cw (passB G B).2))) : WPv T mX7_pass [.ref y] M Q := by
  have h5 := nW_le G
  refine WPM.of (by decide) rfl (Nat.le_of_ble_eq_true rfl) (sg_X7_pass_0 h0 ?_)
  intro M1 e
  have e2 : M1 = rT M y (M.1 (y + 18)) (cw (-1)) := by
    rw [e]
    refine Prod.ext ?_ rfl
    funext a l
    simp only [sI, rT, cw]
    grind
  rw [e2]
  refine l_rpass h0 hG hW (nW G) 0 B _ 0 (20 + 5 * t) (-1) (by omega) hr hb.2.1 hb.2.2 (by omega) (by decide) ?_ (Or.inl rfl) hq
  unfold cnt5
  simp
