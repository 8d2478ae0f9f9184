section
variable {T : Th} {N N0 : Mm} {y tn : Nat} {tb : Nat → Int32} {r : Nat → Int32} {D : Blk} {k a f0 : Nat} {Q : Mm → Prop}
theorem r_free {v z : Int32} {n : Nat} {Q : Int32 → Mm → Prop} (h7 : isX7 T y) (hn : n ≤ 5) (h : N.1 (y + 7) 1 = nI n) (hq : Q (b2i (!(anyF (fun w => decide (N.1 (y + 10) (5 + w) = v ∧ N.1 (y + 13) (5 + w) = z)) 0 n))) (pM N y r)) : WPi T mX7_isFreeAtFirst [.ref y, .int v, .int z] (pM N y r) Q := by
  have l5 : ∀ (m i : Nat) (b : Bool), i + m = n → Q (b2i (b && !(anyF (fun w => decide (N.1 (y + 10) (5 + w) = v ∧ N.1 (y + 13) (5 + w) = z)) i m))) (pM N y r) → WP T mX7_isFreeAtFirst 5 [(0, .ref y), (1, .int v), (2, .int z), (3, .int (b2i b)), (4, .int (nI i))] [] (pM N y r) (qi Q) := by
    intro m
    induction m with
    | zero =>
      intro i b hi hq
      refine sg_X7_isFreeAtFirst_5 h7 ?_
      rw [pM_c 7 (by decide), h]
      refine ⟨fun _ => ⟨by cases b <;> simp [b2i], ?_⟩, fun z => absurd (nI_le (by omega) (by omega)) z⟩
      simpa [anyF] using hq
    | succ m ih =>
      intro i b hi hq
      have ih := ih (i + 1)
      refine sg_X7_isFreeAtFirst_5 h7 ?_
      have e5 : (5 : Int32) + nI i = nI (5 + i) := nI_add 5 i
      rw [pM_c 7 (by decide), pM_c 10 (by decide), pM_c 13 (by decide), h, e5, cl_nI (by omega), nI_1]
      simp only [forall_eq]
      simp only [anyF] at hq
      have v10 : vp_in (nI (5 + i)) 10 := vp_nI (by omega) (by decide)
      refine ⟨fun z => absurd z (nI_ge (by omega) (by omega)), fun _ => ⟨fun z1 => ih false (by omega) ?_, fun z1 => ⟨v10, fun z2 => ih true (by omega) ?_, fun z2 => ⟨v10, fun z3 => ih false (by omega) ?_, fun z3 => ih true (by omega) ?_⟩⟩⟩⟩
      all_goals (cases b <;> simp_all [b2i])
  refine WPM.of (by decide) rfl (Nat.le_of_ble_eq_true rfl) (sg_X7_isFreeAtFirst_0 h7 (l5 n 0 true (by omega) ?_))
  simpa using hq
/-- a wagon that cannot be: whatever is asked, the fault stays -/
theorem r_wagB {f n : Nat} {s0 x2 : Int32} (h7 : isX7 T y) (htn : tn ≤ 200) (hn : n < 5) (hx : 0 ≤ x2) (hF : RFr y N0 N) (hb : RBad tn r f) (hq : ∀ N', RFr y N0 N' → Q (pM N' y r)) : WP T mX7_readWagon 81 [(0, .ref y), (1, .int (nI (5 + n))), (2, .int x2)] [.int s0, .ref y, .int (nI (5 + n)), .ref (y + 13)] (pM N y r) (qv Q) := by
  refine sg_X7_readWagon_81 h7 h7 (by obtain ⟨-, -, -, -, -, -, -, -, -, -, -, -, -, h13, -⟩ := h7; exact h13) (r_dueB h7 htn hb (fun m hm => ?_))
  rw [cl_nI (by omega), pM_sy (by decide)]
  simp only [forall_eq]
  rw [pM_sy (by decide), pM_sy (by decide)]
  exact ⟨vp_nI (by omega) (by decide), vp_nI (by omega) (by decide), hq _ (((hF.s (by omega) (by omega)).s (by omega) (fun _ => hx)).s (by omega) (by omega))⟩
theorem r_wagonB {f n : Nat} {x2 : Int32} (h7 : isX7 T y) (htn : tn ≤ 200) (hn : n < 5) (hx : 0 ≤ x2) (h67 : N.1 (y + 7) 1 = nI n) (hF : RFr y N0 N) (hb : RBad tn r f) (hq : ∀ N', RFr y N0 N' → Q (pM N' y r)) :
    ((¬ ((pM N y r).1 y 20) = 1 → WP T mX7_readWagon 81 [(0, .ref y), (1, .int (nI (5 + n))), (2, .int x2)] [.int 0, .ref y, .int (nI (5 + n)), .ref (y + 13)] (pM N y r) (qv Q)) ∧ (((pM N y r).1 y 20) = 1 → (3 ≤ ((pM N y r).1 y 21) → WP T mX7_readWagon 81 [(0, .ref y), (1, .int (nI (5 + n))), (2, .int x2)] [.int 0, .ref y, .int (nI (5 + n)), .ref (y + 13)] (pM N y r) (qv Q)) ∧ (¬ 3 ≤ ((pM N y r).1 y 21) → WPi T mX7_isFreeAtFirst [.ref y, .int x2, .int ((pM N y r).1 y 21)] (pM N y r) (fun v11 M10 => (v11 = 0 → WP T mX7_readWagon 81 [(0, .ref y), (1, .int (nI (5 + n))), (2, .int x2)] [.int 0, .ref y, .int (nI (5 + n)), .ref (y + 13)] M10 (qv Q)) ∧ (¬ v11 = 0 → WP T mX7_readWagon 81 [(0, .ref y), (1, .int (nI (5 + n))), (2, .int x2)] [.int 1, .ref y, .int (nI (5 + n)), .ref (y + 13)] M10 (qv Q)))))) := by
  have g : ∀ s0 : Int32, WP T mX7_readWagon 81 [(0, .ref y), (1, .int (nI (5 + n))), (2, .int x2)] [.int s0, .ref y, .int (nI (5 + n)), .ref (y + 13)] (pM N y r) (qv Q) := fun s0 => r_wagB h7 htn hn hx hF hb hq
  exact ⟨fun _ => g 0, fun _ => ⟨fun _ => g 0, fun _ => r_free h7 (by omega) h67 ⟨fun _ => g 0, fun _ => g 1⟩⟩⟩
theorem tx {hF : RFr y N0 N} (ht : ∀ k, k < tn → N0.1 (y + 1) k = (tb k).toInt8.toInt32) : ∀ k, k < tn → N.1 (y + 1) k = (tb k).toInt8.toInt32 := fun k hk => by rw [hF.2.2.2.2.1]; exact ht k hk
theorem RSs.sl {r' : Nat → Int32} (h : RSs r D k) (s : RSl r r') : RSs r' D k := by
  unfold RSs at h ⊢
  rw [s.1, s.2.1, s.2.2]; exact h
theorem RSs.of {D' : Blk} (h : RSs r D k) (h3 : D' 0 3 = D 0 3) (h4 : D' 0 4 = D 0 4) : RSs r D' k := by
  unfold RSs at h ⊢
  rw [h3, h4]; exact h
theorem r_readWagon (h7 : isX7 T y) (htn : tn ≤ 200) (ht : ∀ k, k < tn → N0.1 (y + 1) k = (tb k).toInt8.toInt32) (hb : ∀ k, k < tn → 0 ≤ tb k ∧ tb k ≤ 255) (ha : a ≤ tn) (h : ROk tb tn r a) (hA : RA y N D) (hS : RSs r D k) (hF : RFr y N0 N) (hW : WDr D k) (h5 : ¬ 5 ≤ D 0 6)
    (hq : RPost y N0 tb tn k (match rdE tb tn a 0 20 with
      | .inl f => .inl f
      | .inr (v, a1) => match rdE tb tn a1 0 3 with
        | .inl f => .inl f
        | .inr (u, a2) => match rdE tb tn a2 0 9 with
          | .inl f => .inl f
          | .inr (w, a3) => match rdE tb tn a3 0 2 with
            | .inl f => .inl f
            | .inr (z, a4) => if takD D z v then .inl (tkO tb tn a3).2.1 else .inr (addW D v u w z, a4)) Q) : WPv T mX7_readWagon [.ref y] (pM N y r) Q := by
  have n5 := nW_le D
  have h6 := hW.1.2.2.1
  have hn : nW D < 5 := by rw [h6, show (5 : Int32) = nI 5 from rfl, nI_leI (by omega) (by omega)] at h5; omega
  have h67 : N.1 (y + 7) 1 = nI (nW D) := by rw [hA.1.2.2.2.2.2.1]; exact h6
  have e5 : (5 : Int32) + nI (nW D) = nI (5 + nW D) := nI_add 5 _
  have v10 : vp_in (nI (5 + nW D)) 10 := vp_nI (by omega) (by decide)
  refine WPM.of (by decide) rfl (Nat.le_of_ble_eq_true rfl) (sg_X7_readWagon_0 h7 ?_)
  rw [pM_c 7 (by decide), h67, e5]
  simp only [forall_eq]
  rw [cl_nI (by omega)]
  have w1 : ∀ u : Int32, RFr y N0 (sI N (y + 11) (5 + nW D) u) := fun u => hF.s (by omega) (by omega)
  have w2 : ∀ u w : Int32, RFr y N0 (sI (sI N (y + 11) (5 + nW D) u) (y + 12) (5 + nW D) w) := fun u w => (w1 u).s (by omega) (by omega)
  have w7 : ∀ u w : Int32, (sI (sI N (y + 11) (5 + nW D) u) (y + 12) (5 + nW D) w).1 (y + 7) 1 = nI (nW D) := fun u w => by simp only [sI]; rw [if_neg (by omega), if_neg (by omega)]; exact h67
  refine r_num h7 htn (tx (hF := hF) ht) hb ha h (by decide) (fun v a1 r1 e1 c1 s1 => ?_) (fun f m r1 e1 hm c1 s1 => ?_)
  · rw [e1] at hq
    obtain ⟨i1, i2, i3, i4⟩ := rdE_in ha e1
    refine r_num h7 htn (tx (hF := hF) ht) hb i4 c1 (by decide) (fun u a2 r2 e2 c2 s2 => ?_) (fun f m r2 e2 hm c2 s2 => ?_)
    · simp only [e2] at hq
      obtain ⟨j1, j2, j3, j4⟩ := rdE_in i4 e2
      refine ⟨v10, ?_⟩
      rw [pM_sy (by decide)]
      refine r_num h7 htn (tx (hF := w1 u) ht) hb j4 c2 (by decide) (fun w a3 r3 e3 c3 s3 => ?_) (fun f m r3 e3 hm c3 s3 => ?_)
      · simp only [e3] at hq
        obtain ⟨l1, l2, l3, l4⟩ := rdE_in j4 e3
        refine ⟨v10, ?_⟩
        rw [pM_sy (by decide)]
        have c3' := c3
        obtain ⟨h2, h22, t18, t19, t20, t21, tv⟩ := c3'
        have sl : RSl r r3 := (s1.trans s2).trans s3
        have bad : ∀ f, (f = (tkO tb tn a3).2.1) → (∀ N' r', RBad tn r' f → RFr y N0 N' → Q (pM N' y r')) → WP T mX7_readWagon 81 [(0, .ref y), (1, .int (nI (5 + nW D))), (2, .int v)] [.int 0, .ref y, .int (nI (5 + nW D)), .ref (y + 13)] (pM (sI (sI N (y + 11) (5 + nW D) u) (y + 12) (5 + nW D) w) y r3) (qv Q) := by
          intro f hf hQ
          refine sg_X7_readWagon_81 h7 h7 (by obtain ⟨-, -, -, -, -, -, -, -, -, -, -, -, -, h13, -⟩ := h7; exact h13) (r_due0 h7 l4 c3 (fun m r' hm b1 sl' => ?_))
          rw [cl_nI (by omega), pM_sy (by decide)]
          simp only [forall_eq]
          rw [pM_sy (by decide), pM_sy (by decide)]
          rw [← hf] at b1
          exact ⟨v10, v10, hQ _ _ b1 ((((w2 u w).s (by omega) (by omega)).s (by omega) (fun _ => i1)).s (by omega) (by omega))⟩
        have hr4 : rdE tb tn a3 0 2 = (if (tkO tb tn a3).1 = 2 ∧ 0 ≤ (tkO tb tn a3).2.2.1 ∧ (tkO tb tn a3).2.2.1 ≤ 2 then .inr ((tkO tb tn a3).2.2.1, (tkO tb tn a3).2.2.2) else .inl (tkO tb tn a3).2.1) := rfl
        obtain ⟨mm, mm1, mm2⟩ := t21
        rw [pM_p, t20, kR_1]
        have nb : ¬ ((tkO tb tn a3).1 = 2 ∧ 0 ≤ (tkO tb tn a3).2.2.1 ∧ (tkO tb tn a3).2.2.1 ≤ 2) → ∀ N' r', RBad tn r' (tkO tb tn a3).2.1 → RFr y N0 N' → Q (pM N' y r') := fun hnb N' r' x1 x2 => by
          rw [hr4, if_neg hnb] at hq
          exact hq.2 _ N' r' rfl x1 x2
        refine ⟨fun z => bad _ rfl (nb (fun q => z ⟨q.1, Int32.le_trans q.2.2 (by decide)⟩)), fun z => ?_⟩
        have hv := tv z.1 z.2
        rw [hv]
        have h0 : 0 ≤ (tkO tb tn a3).2.2.1 := by rw [← hv, mm2]; exact nI_pos' (by omega)
        refine ⟨fun z2 => bad _ rfl (nb (fun q => absurd (Int32.le_trans z2 q.2.2) (by decide))), fun z2 => ?_⟩
        have h22' : (tkO tb tn a3).2.2.1 ≤ 2 := by
          have := Int32.not_le.mp z2
          grind
        rw [hr4, if_pos ⟨z.1, h0, h22'⟩] at hq
        refine r_free h7 (by omega) (w7 u w) ?_
        have htk : anyF (fun q => decide ((sI (sI N (y + 11) (5 + nW D) u) (y + 12) (5 + nW D) w).1 (y + 10) (5 + q) = v ∧ (sI (sI N (y + 11) (5 + nW D) u) (y + 12) (5 + nW D) w).1 (y + 13) (5 + q) = (tkO tb tn a3).2.2.1)) 0 (nW D) = takD D (tkO tb tn a3).2.2.1 v := by
          unfold takD
          refine anyF_cong _ _ (fun q _ hq => ?_)
          obtain ⟨x1, x2, x3, x4⟩ := hA.2.2.1 q (by omega)
          have y1 : (sI (sI N (y + 11) (5 + nW D) u) (y + 12) (5 + nW D) w).1 (y + 10) (5 + q) = D 7 q := by rw [← x1]; simp only [sI]; rw [if_neg (by omega), if_neg (by omega)]
          have y2 : (sI (sI N (y + 11) (5 + nW D) u) (y + 12) (5 + nW D) w).1 (y + 13) (5 + q) = D 8 q := by rw [← x4]; simp only [sI]; rw [if_neg (by omega), if_neg (by omega)]
          rw [y1, y2]
        rw [htk]
        cases htd : takD D (tkO tb tn a3).2.2.1 v
        · simp only [htd, Bool.false_eq_true, if_false] at hq
          refine ⟨fun z => absurd z (by decide), fun _ => ?_⟩
          refine sg_X7_readWagon_81 h7 h7 (by obtain ⟨-, -, -, -, -, -, -, -, -, -, -, -, -, h13, -⟩ := h7; exact h13) (r_due1 h7 htn (tx (hF := w2 u w) ht) hb l4 c3 (fun r' b1 sl' => ?_))
          rw [cl_nI (by omega), pM_sy (by decide), hv]
          simp only [forall_eq]
          rw [pM_sy (by decide), pM_c 7 (by decide), pM_sy (by decide)]
          have e7 : (sI (sI (sI (sI N (y + 11) (5 + nW D) u) (y + 12) (5 + nW D) w) (y + 13) (5 + nW D) (tkO tb tn a3).2.2.1) (y + 10) (5 + nW D) v).1 (y + 7) 1 = D 0 6 := by
            rw [h6, ← h67]; simp only [sI]; rw [if_neg (by omega), if_neg (by omega), if_neg (by omega), if_neg (by omega)]
          rw [e7]
          refine ⟨v10, v10, hq.1 _ _ _ _ rfl b1 (hA.wag h6 hn) (((hS.sl sl).sl sl').of ?_ ?_) ((((w2 u w).s (by omega) (by omega)).s (by omega) (fun _ => i1)).s (by omega) (by omega))⟩
          · unfold addW; rw [ub_n _ _ (by omega), ub_n _ _ (by omega), ub_n _ _ (by omega), ub_n _ _ (by omega), ub_n _ _ (by omega)]
          · unfold addW; rw [ub_n _ _ (by omega), ub_n _ _ (by omega), ub_n _ _ (by omega), ub_n _ _ (by omega), ub_n _ _ (by omega)]
        · simp only [htd, if_true] at hq
          exact ⟨fun _ => bad _ rfl (fun N' r' x1 x2 => hq.2 _ N' r' rfl x1 x2), fun z => absurd rfl z⟩
      · simp only [e3] at hq
        refine ⟨v10, ?_⟩
        rw [pM_sy (by decide)]
        exact r_wagonB h7 htn hn i1 (w7 u _) (w2 u _) c3 (fun N' x => hq.2 _ N' _ rfl c3 x)
    · simp only [e2] at hq
      refine ⟨v10, ?_⟩
      rw [pM_sy (by decide)]
      refine r_numB h7 htn c2 (fun m2 hm2 => ⟨v10, ?_⟩)
      rw [pM_sy (by decide)]
      exact r_wagonB h7 htn hn i1 (w7 _ _) (w2 _ _) c2 (fun N' x => hq.2 _ N' _ rfl c2 x)
  · rw [e1] at hq
    refine r_numB h7 htn c1 (fun m2 hm2 => ⟨v10, ?_⟩)
    rw [pM_sy (by decide)]
    refine r_numB h7 htn c1 (fun m3 hm3 => ⟨v10, ?_⟩)
    rw [pM_sy (by decide)]
    exact r_wagonB h7 htn hn (nI_pos' (by omega)) (w7 _ _) (w2 _ _) c1 (fun N' x => hq.2 _ N' _ rfl c1 x)
end
