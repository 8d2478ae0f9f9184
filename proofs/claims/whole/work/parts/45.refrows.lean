section
variable {T : Th} {N N0 : Mm} {y tn : Nat} {tb : Nat → Int32} {r : Nat → Int32} {D : Blk} {k a f0 : Nat} {Q : Mm → Prop}
theorem r_placeTold {hi : Int32} {Q : Int32 → Mm → Prop} (h7 : isX7 T y) (h2 : N.1 (y + 2) 1 - 1 = hi) (hq : WPi T mX7_number [.ref y, .int 0, .int hi] (pM N y r) Q) : WPi T mX7_placeTold [.ref y] (pM N y r) Q := by
  refine WPM.of (by decide) rfl (Nat.le_of_ble_eq_true rfl) (sg_X7_placeTold_0 h7 ?_)
  rw [pM_c 2 (by decide), h2]
  exact hq
/-- which letters may be -/
def mayI (D : Blk) (k : Nat) (c : Int32) : Prop := (c = 98 ∧ D 0 4 = -9) ∨ c = 99 ∨ (c = 104 ∧ ¬ 4 ≤ D 0 7) ∨ c = 112 ∨ (c = 114 ∧ k = 0) ∨ (c = 115 ∧ D 0 3 = 0) ∨ (c = 119 ∧ ¬ 5 ≤ D 0 6)
theorem hi99 {D : Blk} (hW : WD0 D) : D 0 0 - 1 ≤ 99 := by
  obtain ⟨sz, s1, s2, s3⟩ := hW.1
  rw [s3, show nI sz - 1 = nI (sz - 1) from by obtain ⟨k, rfl⟩ : ∃ k, sz = k + 1 := ⟨sz - 1, by omega⟩; exact nI_pred k]
  exact nI_le (b := 99) (by omega) (by omega)
theorem hw99 {D : Blk} (hW : WD0 D) : D 0 6 - 1 ≤ 99 := by
  have h5 := nW_le D
  rw [hW.2.2.1]
  by_cases hz : nW D = 0
  · rw [hz]; decide
  · rw [show nI (nW D) - 1 = nI (nW D - 1) from by obtain ⟨k, hk⟩ : ∃ k, nW D = k + 1 := ⟨nW D - 1, by omega⟩; rw [hk]; exact nI_pred k]
    exact nI_le (b := 99) (by omega) (by omega)
theorem r_readRow {c : Int32} (h7 : isX7 T y) (htn : tn ≤ 200) (ht : ∀ k, k < tn → N0.1 (y + 1) k = (tb k).toInt8.toInt32) (hb : ∀ k, k < tn → 0 ≤ tb k ∧ tb k ≤ 255) (ha : a ≤ tn) (h : ROk tb tn r a) (hA : RA y N D) (hS : RSs r D k) (hF : RFr y N0 N) (hW : WDr D k) (hc : mayI D k c)
    (hq : RPost y N0 tb tn k (itm tb tn D k c a f0) Q) : WPv T mX7_readRow [.ref y, .int c] (pM N y r) Q := by
  have tx1 := tx (hF := hF) ht
  refine WPM.of (by decide) rfl (Nat.le_of_ble_eq_true rfl) (sg_X7_readRow_0 h7 ?_)
  unfold itm at hq
  rcases hc with ⟨rfl, h4⟩ | rfl | ⟨rfl, h4⟩ | rfl | ⟨rfl, h4⟩ | ⟨rfl, h4⟩ | ⟨rfl, h4⟩
  · -- bridge
    rw [if_pos rfl, if_neg (fun q => q h4)] at hq
    refine ⟨fun _ => ⟨fun _ => ⟨fun _ => ⟨fun _ => ⟨fun z => absurd rfl z, fun _ => ?_⟩, fun z => absurd z (by decide)⟩, fun z => absurd z (by decide)⟩, fun z => absurd z (by decide)⟩, fun z => absurd z (by decide)⟩
    refine r_placeTold h7 (by rw [hA.1.1]) (r_num h7 htn tx1 hb ha h (hi99 hW.1) (fun v a1 r1 e1 c1 s1 => ?_) (fun f m r1 e1 hm c1 s1 => ?_))
    · rw [e1] at hq
      obtain ⟨i1, i2, i3, i4⟩ := rdE_in ha e1
      rw [pM_sy (by decide)]
      simp only [forall_eq]
      rw [pM_s]
      obtain ⟨x1, x2, x3⟩ := hS
      refine hq.1 _ _ _ _ rfl ?_ (hA.sc (Or.inr (Or.inr (Or.inr (Or.inl ⟨rfl, rfl⟩))))) ⟨?_, ?_, ?_⟩ (hF.s (by omega) (by omega))
      · obtain ⟨y1, y2, y3, y4, y5, y6, y7⟩ := c1
        exact ⟨by rw [upd_nm _ _ (by decide)]; exact y1, by rw [upd_nm _ _ (by decide)]; exact y2, by rw [upd_nm _ _ (by decide)]; exact y3, by rw [upd_nm _ _ (by decide)]; exact y4, by rw [upd_nm _ _ (by decide)]; exact y5, by rw [upd_nm _ _ (by decide)]; exact y6, by rw [upd_nm _ _ (by decide)]; exact y7⟩
      · rw [upd_nm _ _ (by decide), s1.1]; exact x1
      · rw [upd_nm _ _ (by decide), s1.2.1, ub_n _ _ (by omega)]; exact x2
      · rw [upd_s, ub_s]
        refine ⟨fun z => absurd z (by decide), fun z => ?_⟩
        rw [z] at i1; exact absurd i1 (by decide)
    · rw [e1] at hq
      rw [pM_sy (by decide)]
      simp only [forall_eq]
      rw [pM_s]
      refine hq.2 _ _ _ rfl ?_ (hF.s (by omega) (by omega))
      obtain ⟨y1, y2, y3, q, y4, y5⟩ := c1
      exact ⟨by rw [upd_nm _ _ (by decide)]; exact y1, by rw [upd_nm _ _ (by decide)]; exact y2, y3, q, y4, by rw [upd_nm _ _ (by decide)]; exact y5⟩
  · -- cost
    rw [if_neg (by decide), if_pos rfl] at hq
    refine ⟨fun _ => ⟨fun z => absurd rfl z, fun _ => ?_⟩, fun z => absurd z (by decide)⟩
    refine r_placeTold h7 (by rw [hA.1.1]) (r_num h7 htn tx1 hb ha h (hi99 hW.1) (fun v a1 r1 e1 c1 s1 => ?_) (fun f m r1 e1 hm c1 s1 => ?_))
    · rw [e1] at hq
      obtain ⟨i1, i2, i3, i4⟩ := rdE_in ha e1
      refine r_num h7 htn tx1 hb i4 c1 (by decide) (fun u a2 r2 e2 c2 s2 => ?_) (fun f m r2 e2 hm c2 s2 => ?_)
      · simp only [e2] at hq
        obtain ⟨q, q1, q2, q3⟩ := pl_nI hW.1 i1 i2
        rw [pM_p, c2.2.1, q2, show (12 : Int32) + nI q = nI (12 + q) from nI_add 12 q, cl_nI (by omega), pM_sy (by decide)]
        simp only [forall_eq]
        refine ⟨fun z => absurd trivial z, fun _ => ⟨vp_nI (by omega) (by decide), ?_⟩⟩
        rw [q2, cl_nI (by omega)] at hq
        exact hq.1 _ _ _ _ rfl c2 hA.cost (((hS.sl s1).sl s2).of (ub_n _ _ (by omega)) (ub_n _ _ (by omega))) (hF.s (by omega) (by omega))
      · simp only [e2] at hq
        rw [pM_p, c2.2.1]
        exact ⟨fun _ => hq.2 _ _ _ rfl c2 hF, fun z => absurd z (nI_m9 (by have := c2.2.2.1; omega))⟩
    · rw [e1] at hq
      refine r_numB h7 htn c1 (fun m2 hm2 => ?_)
      rw [pM_p, c1.2.1]
      exact ⟨fun _ => hq.2 _ _ _ rfl c1 hF, fun z => absurd z (nI_m9 (by have := c1.2.2.1; omega))⟩
  · -- pair
    rw [if_neg (by decide), if_neg (by decide), if_pos rfl, if_neg h4] at hq
    have hP := hW.1.2.2.2
    have n4 : nP D ≤ 4 := lim_le _ _
    have hn : nP D < 4 := by rw [hP, show (4 : Int32) = nI 4 from rfl, nI_leI (by omega) (by omega)] at h4; omega
    refine ⟨fun _ => ⟨fun _ => ⟨fun _ => ⟨fun _ => ⟨fun _ => ⟨fun _ => ?_, fun z => absurd z (by decide)⟩, fun z => absurd z (by decide)⟩, fun z => absurd z (by decide)⟩, fun z => absurd z (by decide)⟩, fun z => absurd z (by decide)⟩, fun z => absurd z (by decide)⟩
    rw [pM_c 8 (by decide), pM_c 7 (by decide), hA.1.2.2.2.2.2.2, hA.1.2.2.2.2.2.1, hP, show (4 : Int32) + nI (nP D) = nI (4 + nP D) from nI_add 4 _]
    simp only [forall_eq]
    rw [cl_nI (by omega)]
    have v8 : vp_in (nI (4 + nP D)) 8 := vp_nI (by omega) (by decide)
    have h15 : Ob T (y + 15) (1, 8) := by obtain ⟨-, -, -, -, -, -, -, -, -, -, -, -, -, -, -, h15, -⟩ := h7; exact h15
    have w1 : ∀ u : Int32, RFr y N0 (sI N (y + 14) (4 + nP D) u) := fun u => hF.s (by omega) (by omega)
    have q7 : ∀ u : Int32, (sI N (y + 14) (4 + nP D) u).1 (y + 7) 1 = D 0 6 := fun u => by rw [← hA.1.2.2.2.2.2.1]; simp only [sI]; rw [if_neg (by omega)]
    have q14 : ∀ u : Int32, (sI N (y + 14) (4 + nP D) u).1 (y + 14) (4 + nP D) = u := fun u => by simp [sI]
    have badB : ∀ (f : Nat) (r' : Nat → Int32) (u : Int32), RBad tn r' f → (∀ N' r', RBad tn r' f → RFr y N0 N' → Q (pM N' y r')) → WP T mX7_readRow 250 [(0, .ref y)] [.ref y, .int (nI (4 + nP D)), .ref (y + 15)] (pM (sI N (y + 14) (4 + nP D) u) y r') (qv Q) := by
      intro f r' u hbd hQ
      refine sg_X7_readRow_250 h7 h7 h15 (r_dueB h7 htn hbd (fun m hm => ⟨v8, ?_⟩))
      rw [cl_nI (by omega), pM_sy (by decide)]
      simp only [forall_eq]
      rw [pM_sy (by decide)]
      exact hQ _ _ hbd (((w1 u).s (by omega) (by omega)).s (by omega) (by omega))
    have allB : ∀ (f : Nat) (r' : Nat → Int32) (u : Int32), RBad tn r' f → (∀ N' r', RBad tn r' f → RFr y N0 N' → Q (pM N' y r')) → WPi T mX7_due [.ref y, .int 1] (pM (sI N (y + 14) (4 + nP D) u) y r') (fun v6 M5 => vp_in (nI (4 + nP D)) 8 ∧ Q (sI (sI M5 (y + 15) (4 + nP D) v6) (y + 8) 1 ((sI M5 (y + 15) (4 + nP D) v6).1 (y + 8) 1 + 1))) := by
      intro f r' u hbd hQ
      refine r_dueB h7 htn hbd (fun m hm => ⟨v8, ?_⟩)
      rw [pM_sy (by decide), pM_sy (by decide)]
      exact hQ _ _ hbd (((w1 u).s (by omega) (by omega)).s (by omega) (by omega))
    refine r_num h7 htn tx1 hb ha h (hw99 hW.1) (fun v a1 r1 e1 c1 s1 => ?_) (fun f m r1 e1 hm c1 s1 => ?_)
    · simp only [e1] at hq
      obtain ⟨i1, i2, i3, i4⟩ := rdE_in ha e1
      refine ⟨v8, ?_⟩
      rw [pM_sy (by decide)]
      have c1' := c1
      obtain ⟨h2, h22, t18, t19, t20, ⟨mm, mm1, mm2⟩, tv⟩ := c1'
      have hr2 : rdE tb tn a1 0 (D 0 6 - 1) = (if (tkO tb tn a1).1 = 2 ∧ 0 ≤ (tkO tb tn a1).2.2.1 ∧ (tkO tb tn a1).2.2.1 ≤ D 0 6 - 1 then .inr ((tkO tb tn a1).2.2.1, (tkO tb tn a1).2.2.2) else .inl (tkO tb tn a1).2.1) := rfl
      have bad : (∀ N' r', RBad tn r' (tkO tb tn a1).2.1 → RFr y N0 N' → Q (pM N' y r')) → WP T mX7_readRow 250 [(0, .ref y)] [.ref y, .int (nI (4 + nP D)), .ref (y + 15)] (pM (sI N (y + 14) (4 + nP D) v) y r1) (qv Q) := by
        intro hQ
        refine sg_X7_readRow_250 h7 h7 h15 (r_due0 h7 i4 c1 (fun m r' hm b1 sl' => ⟨v8, ?_⟩))
        rw [cl_nI (by omega), pM_sy (by decide)]
        simp only [forall_eq]
        rw [pM_sy (by decide)]
        exact hQ _ _ b1 (((w1 v).s (by omega) (by omega)).s (by omega) (by omega))
      have nb : ¬ ((tkO tb tn a1).1 = 2 ∧ 0 ≤ (tkO tb tn a1).2.2.1 ∧ (tkO tb tn a1).2.2.1 ≤ D 0 6 - 1) → ∀ N' r', RBad tn r' (tkO tb tn a1).2.1 → RFr y N0 N' → Q (pM N' y r') := fun hnb N' r' x1 x2 => by
        rw [hr2, if_neg hnb] at hq
        exact hq.2 _ N' r' rfl x1 x2
      rw [pM_p, t20, kR_1, pM_c 7 (by decide), pM_c 14 (by decide), q7, q14]
      refine ⟨fun z => bad (nb (fun q => z ⟨q.1, Int32.le_trans q.2.2 (hw99 hW.1)⟩)), fun z => ?_⟩
      have hv := tv z.1 z.2
      rw [hv]
      have h0 : 0 ≤ (tkO tb tn a1).2.2.1 := by rw [← hv, mm2]; exact nI_pos' (by omega)
      have h6 := hW.1.2.2.1
      have n5 := nW_le D
      refine ⟨fun z2 => bad (nb (fun q => ?_)), fun z2 => ⟨v8, fun z3 => bad ?_, fun z3 => ?_⟩⟩
      · obtain ⟨w, w1, w2⟩ := wg_nI hW.1 h0 q.2.2
        rw [h6, w2, nI_leI (by omega) (by omega)] at z2
        omega
      · have hle : (tkO tb tn a1).2.2.1 ≤ D 0 6 - 1 := by
          rw [z3]; exact i2
        rw [hr2, if_pos ⟨z.1, h0, hle⟩] at hq
        simp only [z3, if_true] at hq
        intro N' r' x1 x2
        exact hq.2 _ N' r' rfl x1 x2
      · have hle : (tkO tb tn a1).2.2.1 ≤ D 0 6 - 1 := by
          have hmm : mm < nW D := by
            rw [← hv, mm2, h6, nI_leI (by omega) (by omega)] at z2; omega
          rw [← hv, mm2, h6, show nI (nW D) - 1 = nI (nW D - 1) from by obtain ⟨k, hk⟩ : ∃ k, nW D = k + 1 := ⟨nW D - 1, by omega⟩; rw [hk]; exact nI_pred k]
          exact nI_le (by omega) (by omega)
        rw [hr2, if_pos ⟨z.1, h0, hle⟩] at hq
        have hne : ¬ v = (tkO tb tn a1).2.2.1 := fun e => z3 e.symm
        simp only [hne, if_false] at hq
        refine r_due1 h7 htn (tx (hF := w1 v) ht) hb i4 c1 (fun r' b1 sl' => ⟨v8, ?_⟩)
        rw [hv, pM_sy (by decide), pM_c 8 (by decide), pM_sy (by decide)]
        have e8 : (sI (sI N (y + 14) (4 + nP D) v) (y + 15) (4 + nP D) (tkO tb tn a1).2.2.1).1 (y + 8) 1 = D 0 7 := by
          rw [← hA.1.2.2.2.2.2.2]; simp only [sI]; rw [if_neg (by omega), if_neg (by omega)]
        rw [e8]
        refine hq.1 _ _ _ _ rfl b1 (hA.pair hP hn) (((hS.sl s1).sl sl').of ?_ ?_) (((w1 v).s (by omega) (by omega)).s (by omega) (by omega))
        · unfold addP; rw [ub_n _ _ (by omega), ub_n _ _ (by omega), ub_n _ _ (by omega)]
        · unfold addP; rw [ub_n _ _ (by omega), ub_n _ _ (by omega), ub_n _ _ (by omega)]
    · rw [e1] at hq
      refine ⟨v8, ?_⟩
      rw [pM_sy (by decide)]
      have hQ : ∀ N' r', RBad tn r' f → RFr y N0 N' → Q (pM N' y r') := fun N' r' x1 x2 => hq.2 _ N' r' rfl x1 x2
      exact ⟨fun _ => badB f r1 _ c1 hQ, fun _ => ⟨fun _ => badB f r1 _ c1 hQ, fun _ => ⟨v8, fun _ => badB f r1 _ c1 hQ, fun _ => allB f r1 _ c1 hQ⟩⟩⟩
  · -- points
    rw [if_neg (by decide), if_neg (by decide), if_neg (by decide), if_pos rfl] at hq
    refine ⟨fun _ => ⟨fun _ => ⟨fun z => absurd rfl z, fun _ => ?_⟩, fun z => absurd z (by decide)⟩, fun z => absurd z (by decide)⟩
    refine r_placeTold h7 (by rw [hA.1.1]) (r_num h7 htn tx1 hb ha h (hi99 hW.1) (fun v a1 r1 e1 c1 s1 => ?_) (fun f m r1 e1 hm c1 s1 => ?_))
    · rw [e1] at hq
      rw [pM_p, c1.2.1, pM_c 6 (by decide), hA.1.2.2.2.2.1, pM_sy (by decide), pM_sy (by decide)]
      simp only [forall_eq]
      exact ⟨fun z => absurd trivial z, fun _ => hq.1 _ _ _ _ rfl c1 (hA.sc (Or.inr (Or.inr (Or.inr (Or.inr ⟨rfl, rfl⟩))))) ((hS.sl s1).of (ub_n _ _ (by omega)) (ub_n _ _ (by omega))) (hF.s (by omega) (by omega))⟩
    · rw [e1] at hq
      rw [pM_p, c1.2.1, pM_sy (by decide), pM_sy (by decide)]
      simp only [forall_eq]
      exact ⟨fun _ => hq.2 _ _ _ rfl c1 (hF.s (by omega) (by omega)), fun z => absurd z (nI_m9 (by have := c1.2.2.1; omega))⟩
  · -- ring
    rw [if_neg (by decide), if_neg (by decide), if_neg (by decide), if_neg (by decide), if_pos rfl, if_neg (by omega)] at hq
    refine ⟨fun z => absurd rfl z, fun _ => ?_⟩
    refine r_num h7 htn tx1 hb ha h (by decide) (fun v a1 r1 e1 c1 s1 => ?_) (fun f m r1 e1 hm c1 s1 => ?_)
    · rw [e1] at hq
      rw [pM_sy (by decide)]
      simp only [forall_eq]
      exact hq.1 _ _ _ _ rfl c1 (hA.sc (Or.inl ⟨rfl, rfl⟩)) ((hS.sl s1).of (ub_n _ _ (by omega)) (ub_n _ _ (by omega))) (hF.s (by omega) (by omega))
    · rw [e1] at hq
      rw [pM_sy (by decide)]
      simp only [forall_eq]
      exact hq.2 _ _ _ rfl c1 (hF.s (by omega) (by omega))
  · -- sun
    rw [if_neg (by decide), if_neg (by decide), if_neg (by decide), if_neg (by decide), if_neg (by decide), if_pos rfl, if_neg (fun q => q h4)] at hq
    refine ⟨fun _ => ⟨fun _ => ⟨fun _ => ⟨fun z => absurd rfl z, fun _ => ?_⟩, fun z => absurd z (by decide)⟩, fun z => absurd z (by decide)⟩, fun z => absurd z (by decide)⟩
    have badUp : ∀ {r' : Nat → Int32} {f : Nat}, RBad tn r' f → RBad tn (upd r' 24 1) f := fun ⟨y1, y2, y3, q, y4, y5⟩ => ⟨by rw [upd_nm _ _ (by decide)]; exact y1, by rw [upd_nm _ _ (by decide)]; exact y2, y3, q, y4, by rw [upd_nm _ _ (by decide)]; exact y5⟩
    refine r_num h7 htn tx1 hb ha h (by decide) (fun v a1 r1 e1 c1 s1 => ?_) (fun f m r1 e1 hm c1 s1 => ?_)
    · rw [e1] at hq
      obtain ⟨i1, i2, i3, i4⟩ := rdE_in ha e1
      rw [pM_sy (by decide)]
      intro M3 e3
      rw [e3]
      have hF1 : RFr y N0 (sI N (y + 3) 1 v) := hF.s (by omega) (by omega)
      refine r_num h7 htn (tx (hF := hF1) ht) hb i4 c1 (by decide) (fun u a2 r2 e2 c2 s2 => ?_) (fun f m r2 e2 hm c2 s2 => ?_)
      · simp only [e2] at hq
        rw [pM_sy (by decide)]
        simp only [forall_eq]
        rw [pM_s]
        obtain ⟨x1, x2, x3⟩ := (hS.sl s1).sl s2
        refine hq.1 _ _ _ _ rfl ?_ ((hA.no3.sc (Or.inr (Or.inl ⟨rfl, rfl⟩))).sc (Or.inr (Or.inr (Or.inl ⟨rfl, rfl⟩)))) ⟨?_, ?_, ?_⟩ (hF1.s (by omega) (by omega))
        · obtain ⟨y1, y2, y3, y4, y5, y6, y7⟩ := c2
          exact ⟨by rw [upd_nm _ _ (by decide)]; exact y1, by rw [upd_nm _ _ (by decide)]; exact y2, by rw [upd_nm _ _ (by decide)]; exact y3, by rw [upd_nm _ _ (by decide)]; exact y4, by rw [upd_nm _ _ (by decide)]; exact y5, by rw [upd_nm _ _ (by decide)]; exact y6, by rw [upd_nm _ _ (by decide)]; exact y7⟩
        · rw [upd_nm _ _ (by decide)]; exact x1
        · rw [upd_s, ub_n _ _ (by omega), ub_n _ _ (by omega), ub_s]
        · rw [upd_nm _ _ (by decide), ub_n _ _ (by omega), ub_n _ _ (by omega), ub_n _ _ (by omega)]; exact x3
      · simp only [e2] at hq
        rw [pM_sy (by decide)]
        simp only [forall_eq]
        rw [pM_s]
        exact hq.2 _ _ _ rfl (badUp c2) (hF1.s (by omega) (by omega))
    · rw [e1] at hq
      rw [pM_sy (by decide)]
      intro M3 e3
      rw [e3]
      have hF1 : RFr y N0 (sI N (y + 3) 1 (nI m)) := hF.s (by omega) (by omega)
      refine r_numB h7 htn c1 (fun m2 hm2 => ?_)
      rw [pM_sy (by decide)]
      simp only [forall_eq]
      rw [pM_s]
      exact hq.2 _ _ _ rfl (badUp c1) (hF1.s (by omega) (by omega))
  · -- wagon
    rw [if_neg (by decide), if_neg (by decide), if_neg (by decide), if_neg (by decide), if_neg (by decide), if_neg (by decide), if_pos rfl, if_neg h4] at hq
    refine ⟨fun _ => ⟨fun _ => ⟨fun _ => ⟨fun _ => ⟨fun _ => ⟨fun z => absurd rfl z, fun _ => ?_⟩, fun z => absurd z (by decide)⟩, fun z => absurd z (by decide)⟩, fun z => absurd z (by decide)⟩, fun z => absurd z (by decide)⟩, fun z => absurd z (by decide)⟩
    exact r_readWagon h7 htn ht hb ha h hA hS hF hW h4 hq
end
