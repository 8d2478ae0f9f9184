/-! WHAT WAS TOLD, settled: the new ground and its first moment -/
theorem mins_rows {D E : Blk} {w v : Int32} (h0 : E 0 = D 0) (h1 : E 1 = D 1) (h2 : E 2 = D 2) : mins E w v = mins D w v := by
  unfold mins plc hasPl hasWg
  rw [h0, h1, h2]
theorem lf_row {j : Nat} (hj : j ≠ 9) : ∀ (n i : Nat) (D : Blk), foldF lfS i n D j = D j
  | 0, _, _ => rfl
  | n + 1, i, D => by
    simp only [foldF]
    rw [lf_row hj n (i + 1)]
    unfold lfS
    funext l; exact ub_n _ _ (fun z => hj z.1)
theorem lf_9 : ∀ (n i : Nat) (D : Blk) (w : Nat), foldF lfS i n D 9 w = if i ≤ w ∧ w < i + n then mins D (nI w) (D 7 w) else D 9 w
  | 0, i, D, w => by simp only [foldF]; rw [if_neg (by omega)]
  | n + 1, i, D, w => by
    simp only [foldF]
    rw [lf_9 n (i + 1) (lfS D i) w]
    have r : ∀ j, j ≠ 9 → lfS D i j = D j := fun j hj => by unfold lfS; funext l; exact ub_n _ _ (fun z => hj z.1)
    rw [mins_rows (r 0 (by decide)) (r 1 (by decide)) (r 2 (by decide)), r 7 (by decide)]
    by_cases e : w = i
    · subst e; rw [if_neg (by omega), if_pos (by omega)]; unfold lfS; rw [ub_s]
    · by_cases q : i + 1 ≤ w ∧ w < i + 1 + n
      · rw [if_pos q, if_pos (by omega)]
      · rw [if_neg q, if_neg (by omega)]; unfold lfS; exact ub_n _ _ (fun z => e z.2)
theorem st_row {D : Blk} {j : Nat} (h2 : j ≠ 2) (h9 : j ≠ 9) : stB D j = D j := by
  unfold stB; rw [lf_row h9, jnN_row h2]
theorem st_2 {D : Blk} : stB D 2 = jnN (nP D) D 2 := by unfold stB; rw [lf_row (by decide)]
theorem st_9 {D : Blk} {w : Nat} (hw : w < nW D) : stB D 9 w = mins (stB D) (nI w) (D 7 w) := by
  have e : mins (stB D) (nI w) (D 7 w) = mins (jnN (nP D) D) (nI w) (D 7 w) := by
    refine mins_rows ?_ ?_ ?_
    · unfold stB; rw [lf_row (by decide)]
    · unfold stB; rw [lf_row (by decide)]
    · unfold stB; rw [lf_row (by decide)]
  rw [e]
  unfold stB
  rw [lf_9, if_pos (by omega), jnN_row (by decide)]
theorem st_n {D : Blk} : nW (stB D) = nW D := nW_of (by rw [st_row (by decide) (by decide)])
def pA (D : Blk) (i : Nat) : Nat := (D 4 i).toNatClampNeg
def pB (D : Blk) (i : Nat) : Nat := (D 5 i).toNatClampNeg
theorem WDr.ps {D : Blk} {k : Nat} (h : WDr D k) : ∀ i, i < nP D → D 4 i = nI (pA D i) ∧ D 5 i = nI (pB D i) ∧ pA D i < nW D ∧ pB D i < nW D := fun i hi => by
  obtain ⟨a, b, h1, h2, h3, h4⟩ := h.2.2.2.2.2.2.2 i hi
  have h5 := nW_le D
  unfold pA pB
  rw [h3, h4, cl_nI (by omega), cl_nI (by omega)]
  exact ⟨rfl, rfl, h1, h2⟩
theorem st_2j {D : Blk} {k : Nat} (h : WDr D k) : stB D 2 = jr (pA D) (pB D) (nP D) (nP D) (D 2) := by
  have h5 := nW_le D
  rw [st_2]
  exact jnN_jr (n := nW D) h5 (fun i hi => ⟨(h.ps i hi).2.2.1, (h.ps i hi).2.2.2⟩) (nP D) D rfl h.1.2.2.1 (fun i hi => ⟨(h.ps i hi).1, (h.ps i hi).2.1⟩)
theorem st_wg {D : Blk} {k : Nat} (h : WDr D k) : WG (stB D) := by
  have hh := h
  obtain ⟨⟨a1, a2, a3, a4⟩, b, c, c', e, f, g, i⟩ := h
  have r0 := st_row (D := D) (j := 0) (by decide) (by decide)
  have r1 := st_row (D := D) (j := 1) (by decide) (by decide)
  refine ⟨by rw [r0]; exact a1, by rw [r0, st_n]; exact a3, by rw [r0]; exact b.1, by rw [r0]; exact b.2, by rw [r0]; exact c, fun p hp => by rw [r1]; exact f p hp, fun w hw => ?_⟩
  rw [st_n] at hw
  rw [st_2j hh]
  exact jr_b (n := nW D) (fun i hi => ⟨(hh.ps i hi).2.2.1, (hh.ps i hi).2.2.2⟩) (nP D) (D 2) (fun w hw => (g w hw).1) w hw
theorem st_F {D : Blk} {k : Nat} (h : WDr D k) (z6 : D 6 0 = 0 ∧ D 6 1 = 0) (z10 : ∀ w, w < 5 → D 10 w = 0) (z11 : ∀ w, w < 5 → D 11 w = 0) : stB D 6 0 = 0 ∧ stB D 6 1 = 0 ∧ ∀ w, w < nW (stB D) → 0 ≤ stB D 7 w ∧ stB D 7 w ≤ 20 ∧ stB D 10 w = 0 ∧ stB D 11 w = 0 ∧ stB D 9 w = mins (stB D) (nI w) (stB D 7 w) := by
  have h5 := nW_le D
  rw [st_row (j := 6) (by decide) (by decide), st_n]
  refine ⟨z6.1, z6.2, fun w hw => ?_⟩
  rw [st_row (j := 7) (by decide) (by decide), st_row (j := 10) (by decide) (by decide), st_row (j := 11) (by decide) (by decide)]
  exact ⟨(h.2.2.2.2.2.2.1 w hw).2.1, (h.2.2.2.2.2.2.1 w hw).2.2, z10 w (by omega), z11 w (by omega), st_9 hw⟩
