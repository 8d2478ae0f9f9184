/-! THE DRAFT as it is told -/
theorem one_shl : ∀ q, q < 12 → ((1 : Int32) <<< (nI q &&& 31)) = nI (2 ^ q) := by decide +kernel
theorem nI_or (a b : Nat) : nI a ||| nI b = nI (a ||| b) := by
  refine Int32.toBitVec_inj.mp ?_
  show BitVec.ofNat 32 a ||| BitVec.ofNat 32 b = BitVec.ofNat 32 (a ||| b)
  refine BitVec.eq_of_toNat_eq ?_
  simp only [BitVec.toNat_or, BitVec.toNat_ofNat]
  exact (Nat.or_mod_two_pow (n := 32)).symm
def WDr (D : Blk) (k : Nat) : Prop := WD0 D ∧ (1 ≤ D 0 1 ∧ D 0 1 ≤ 9) ∧ (D 0 4 = -9 ∨ (0 ≤ D 0 4 ∧ D 0 4 < D 0 0)) ∧ (k = 0 → D 0 4 = -9) ∧ (∃ c, c < 4096 ∧ D 0 5 = nI c) ∧ (∀ p, p < 12 → 1 ≤ D 1 p ∧ D 1 p ≤ 4) ∧ (∀ w, w < nW D → (0 ≤ D 2 w ∧ D 2 w ≤ 3) ∧ 0 ≤ D 7 w ∧ D 7 w ≤ 20) ∧ ∀ i, i < nP D → ∃ a b, a < nW D ∧ b < nW D ∧ D 4 i = nI a ∧ D 5 i = nI b
theorem nW_of {D D' : Blk} (h : D' 0 6 = D 0 6) : nW D' = nW D := by unfold nW; rw [h]
theorem nP_of {D D' : Blk} (h : D' 0 7 = D 0 7) : nP D' = nP D := by unfold nP; rw [h]
/-- of a scalar's change only that scalar matters -/
theorem WDr.sc {D : Blk} {k j : Nat} {v : Int32} (h : WDr D k) (hj : j = 0 ∨ j = 1 ∨ j = 2 ∨ j = 3 ∨ j = 4 ∨ j = 5)
    (h0 : j = 0 → k = 0 ∧ ∃ sz, 4 ≤ sz ∧ sz ≤ 12 ∧ v = nI sz) (h1 : j = 1 → 1 ≤ v ∧ v ≤ 9) (h3 : j = 3 → v = 0 ∨ v = 1) (h4 : j = 4 → 0 ≤ v ∧ v < D 0 0) (h5 : j = 5 → ∃ c, c < 4096 ∧ v = nI c) : WDr (ub D 0 j v) (k + 1) := by
  have j6 : (6 : Nat) ≠ j := by clear h h0 h1 h3 h4 h5; omega
  have j7 : (7 : Nat) ≠ j := by clear h h0 h1 h3 h4 h5; omega
  obtain ⟨⟨a1, a2, a3, a4⟩, b, c, c', e, f, g, i⟩ := h
  have o : ∀ q, q ≠ j → ub D 0 j v 0 q = D 0 q := fun q hq => ub_n _ _ (fun z => hq z.2)
  have r : ∀ q l, q ≠ 0 → ub D 0 j v q l = D q l := fun q l hq => ub_n _ _ (fun z => hq z.1)
  have e6 := nW_of (D := D) (D' := ub D 0 j v) (o 6 j6)
  have e7 := nP_of (D := D) (D' := ub D 0 j v) (o 7 j7)
  have s0 : j = 0 → ub D 0 j v 0 0 = v := fun z => by subst z; exact ub_s _ _ _ _
  have s1 : j = 1 → ub D 0 j v 0 1 = v := fun z => by subst z; exact ub_s _ _ _ _
  have s3 : j = 3 → ub D 0 j v 0 3 = v := fun z => by subst z; exact ub_s _ _ _ _
  have s4 : j = 4 → ub D 0 j v 0 4 = v := fun z => by subst z; exact ub_s _ _ _ _
  have s5 : j = 5 → ub D 0 j v 0 5 = v := fun z => by subst z; exact ub_s _ _ _ _
  refine ⟨⟨?_, ?_, ?_, ?_⟩, ?_, ?_, fun z => by omega, ?_, ?_, ?_, ?_⟩
  · by_cases z : j = 0
    · rw [s0 z]; exact (h0 z).2
    · rw [o 0 (Ne.symm z)]; exact a1
  · by_cases z : j = 3
    · rw [s3 z]; exact h3 z
    · rw [o 3 (Ne.symm z)]; exact a2
  · rw [o 6 j6, e6]; exact a3
  · rw [o 7 j7, e7]; exact a4
  · by_cases z : j = 1
    · rw [s1 z]; exact h1 z
    · rw [o 1 (Ne.symm z)]; exact b
  · by_cases z : j = 4
    · rw [s4 z, o 0 (by rw [z]; decide)]; exact Or.inr (h4 z)
    · rw [o 4 (Ne.symm z)]
      by_cases z0 : j = 0
      · exact Or.inl (c' (h0 z0).1)
      · rw [o 0 (Ne.symm z0)]; exact c
  · by_cases z : j = 5
    · rw [s5 z]; exact h5 z
    · rw [o 5 (Ne.symm z)]; exact e
  · intro p hp; rw [r 1 p (by decide)]; exact f p hp
  · intro w hw; rw [r 2 w (by decide), r 7 w (by decide)]; exact g w (by omega)
  · intro q hq; rw [r 4 q (by decide), r 5 q (by decide), e6]; exact i q (by omega)
theorem WDr.up {D : Blk} {k : Nat} (h : WDr D k) (h4 : 0 < k) : WDr D (k + 1) := by
  obtain ⟨a, b, c, c', d⟩ := h
  exact ⟨a, b, c, fun z => by omega, d⟩
theorem pl_nI {D : Blk} {v : Int32} (hW : WD0 D) (h0 : 0 ≤ v) (h1 : v ≤ D 0 0 - 1) : ∃ q, q < 12 ∧ v = nI q ∧ v < D 0 0 := by
  obtain ⟨sz, s1, s2, s3⟩ := hW.1
  rw [s3] at h1 ⊢
  rw [show nI sz - 1 = nI (sz - 1) from by obtain ⟨k, rfl⟩ : ∃ k, sz = k + 1 := ⟨sz - 1, by omega⟩; exact nI_pred k] at h1
  obtain ⟨k, k1, k2⟩ := nI_of2 (x := v) (M := nI (sz - 1)) (n := sz - 1) (nI_toInt (by omega)) (Int32.not_lt.mpr h0) h1
  exact ⟨k, by omega, k2, by rw [k2]; exact nI_lt (by omega) (by omega)⟩
theorem wg_nI {D : Blk} {v : Int32} (hW : WD0 D) (h0 : 0 ≤ v) (h1 : v ≤ D 0 6 - 1) : ∃ q, q < nW D ∧ v = nI q := by
  have h5 := nW_le D
  have h6 := hW.2.2.1
  rw [h6] at h1
  by_cases hz : nW D = 0
  · rw [hz] at h1
    have h1 : v ≤ (-1 : Int32) := h1
    exact absurd (Int32.le_trans h0 h1) (by decide)
  · rw [show nI (nW D) - 1 = nI (nW D - 1) from by obtain ⟨k, hk⟩ : ∃ k, nW D = k + 1 := ⟨nW D - 1, by omega⟩; rw [hk]; exact nI_pred k] at h1
    obtain ⟨k, k1, k2⟩ := nI_of2 (x := v) (M := nI (nW D - 1)) (n := nW D - 1) (nI_toInt (by omega)) (Int32.not_lt.mpr h0) h1
    exact ⟨k, by omega, k2⟩
theorem WDr.wag {D : Blk} {k : Nat} {v u w z : Int32} (h : WDr D k) (h5 : ¬ 5 ≤ D 0 6) (hv : 0 ≤ v ∧ v ≤ 20) (hu : 0 ≤ u ∧ u ≤ 3) : WDr (addW D v u w z) (k + 1) ∧ nW (addW D v u w z) = nW D + 1 ∧ nW D < 5 := by
  obtain ⟨⟨a1, a2, a3, a4⟩, b, c, c', e, f, g, i⟩ := h
  have n5 := nW_le D
  have hn : nW D < 5 := by rw [a3, show (5 : Int32) = nI 5 from rfl, nI_leI (by omega) (by omega)] at h5; omega
  have o : ∀ q, q ≠ 6 → addW D v u w z 0 q = D 0 q := fun q hq => by unfold addW; rw [ub_n _ _ (fun z => hq z.2), ub_n _ _ (by omega), ub_n _ _ (by omega), ub_n _ _ (by omega), ub_n _ _ (by omega)]
  have s6 : addW D v u w z 0 6 = nI (nW D + 1) := by unfold addW; rw [ub_s, a3, nI_1]
  have e6 : nW (addW D v u w z) = nW D + 1 := by unfold nW at *; rw [s6]; exact lim_nI (by omega) (by omega)
  have e7 := nP_of (D := D) (D' := addW D v u w z) (o 7 (by decide))
  have r1 : ∀ l, addW D v u w z 1 l = D 1 l := fun l => by unfold addW; rw [ub_n _ _ (by omega), ub_n _ _ (by omega), ub_n _ _ (by omega), ub_n _ _ (by omega), ub_n _ _ (by omega)]
  have r4 : ∀ l, addW D v u w z 4 l = D 4 l := fun l => by unfold addW; rw [ub_n _ _ (by omega), ub_n _ _ (by omega), ub_n _ _ (by omega), ub_n _ _ (by omega), ub_n _ _ (by omega)]
  have r5 : ∀ l, addW D v u w z 5 l = D 5 l := fun l => by unfold addW; rw [ub_n _ _ (by omega), ub_n _ _ (by omega), ub_n _ _ (by omega), ub_n _ _ (by omega), ub_n _ _ (by omega)]
  have r2 : ∀ l, addW D v u w z 2 l = if l = nW D then u else D 2 l := fun l => by
    unfold addW; rw [ub_n _ _ (by omega), ub_n _ _ (by omega), ub_n _ _ (by omega), ub_n _ _ (by omega)]
    by_cases q : l = nW D
    · rw [if_pos q, q, ub_s]
    · rw [if_neg q, ub_n _ _ (fun z => q z.2)]
  have r7 : ∀ l, addW D v u w z 7 l = if l = nW D then v else D 7 l := fun l => by
    unfold addW; rw [ub_n _ _ (by omega), ub_n _ _ (by omega)]
    by_cases q : l = nW D
    · rw [if_pos q, q, ub_s]
    · rw [if_neg q, ub_n _ _ (fun z => q z.2), ub_n _ _ (by omega), ub_n _ _ (by omega)]
  refine ⟨⟨⟨?_, ?_, ?_, ?_⟩, ?_, ?_, fun z => by omega, ?_, ?_, ?_, ?_⟩, e6, hn⟩
  · rw [o 0 (by decide)]; exact a1
  · rw [o 3 (by decide)]; exact a2
  · rw [s6, e6]
  · rw [o 7 (by decide), e7]; exact a4
  · rw [o 1 (by decide)]; exact b
  · rw [o 4 (by decide), o 0 (by decide)]; exact c
  · rw [o 5 (by decide)]; exact e
  · intro p hp; rw [r1]; exact f p hp
  · intro q hq
    rw [r2, r7]
    by_cases z : q = nW D
    · rw [if_pos z, if_pos z]; exact ⟨hu, hv⟩
    · rw [if_neg z, if_neg z]; exact g q (by omega)
  · intro q hq
    rw [r4, r5, e6]
    obtain ⟨x, y, h1, h2, h3⟩ := i q (by omega)
    exact ⟨x, y, by omega, by omega, h3⟩
theorem WDr.pair {D : Blk} {k a b : Nat} (h : WDr D k) (h4 : ¬ 4 ≤ D 0 7) (ha : a < nW D) (hb : b < nW D) : WDr (addP D (nI a) (nI b)) (k + 1) ∧ nP (addP D (nI a) (nI b)) = nP D + 1 ∧ nP D < 4 := by
  obtain ⟨⟨a1, a2, a3, a4⟩, b', c, c', e, f, g, i⟩ := h
  have n4 : nP D ≤ 4 := lim_le _ _
  have hn : nP D < 4 := by rw [a4, show (4 : Int32) = nI 4 from rfl, nI_leI (by omega) (by omega)] at h4; omega
  have o : ∀ q, q ≠ 7 → addP D (nI a) (nI b) 0 q = D 0 q := fun q hq => by unfold addP; rw [ub_n _ _ (fun z => hq z.2), ub_n _ _ (by omega), ub_n _ _ (by omega)]
  have s7 : addP D (nI a) (nI b) 0 7 = nI (nP D + 1) := by unfold addP; rw [ub_s, a4, nI_1]
  have e7 : nP (addP D (nI a) (nI b)) = nP D + 1 := by unfold nP at *; rw [s7]; exact lim_nI (by omega) (by omega)
  have e6 := nW_of (D := D) (D' := addP D (nI a) (nI b)) (o 6 (by decide))
  have r : ∀ q l, q ≠ 0 → q ≠ 4 → q ≠ 5 → addP D (nI a) (nI b) q l = D q l := fun q l h1 h2 h3 => by unfold addP; rw [ub_n _ _ (fun z => h1 z.1), ub_n _ _ (fun z => h3 z.1), ub_n _ _ (fun z => h2 z.1)]
  have r4 : ∀ l, addP D (nI a) (nI b) 4 l = if l = nP D then nI a else D 4 l := fun l => by
    unfold addP; rw [ub_n _ _ (by omega), ub_n _ _ (by omega)]
    by_cases q : l = nP D
    · rw [if_pos q, q, ub_s]
    · rw [if_neg q, ub_n _ _ (fun z => q z.2)]
  have r5 : ∀ l, addP D (nI a) (nI b) 5 l = if l = nP D then nI b else D 5 l := fun l => by
    unfold addP; rw [ub_n _ _ (by omega)]
    by_cases q : l = nP D
    · rw [if_pos q, q, ub_s]
    · rw [if_neg q, ub_n _ _ (fun z => q z.2), ub_n _ _ (by omega)]
  refine ⟨⟨⟨?_, ?_, ?_, ?_⟩, ?_, ?_, fun z => by omega, ?_, ?_, ?_, ?_⟩, e7, hn⟩
  · rw [o 0 (by decide)]; exact a1
  · rw [o 3 (by decide)]; exact a2
  · rw [o 6 (by decide), e6]; exact a3
  · rw [s7, e7]
  · rw [o 1 (by decide)]; exact b'
  · rw [o 4 (by decide), o 0 (by decide)]; exact c
  · rw [o 5 (by decide)]; exact e
  · intro p hp; rw [r 1 p (by decide) (by decide) (by decide)]; exact f p hp
  · intro q hq; rw [r 2 q (by decide) (by decide) (by decide), r 7 q (by decide) (by decide) (by decide)]; exact g q (by omega)
  · intro q hq
    rw [r4, r5, e6]
    by_cases z : q = nP D
    · rw [if_pos z, if_pos z]; exact ⟨a, b, ha, hb, rfl, rfl⟩
    · rw [if_neg z, if_neg z]; exact i q (by omega)
theorem WDr.cost {D : Blk} {k q : Nat} {u : Int32} (h : WDr D k) (hk : WDr D (k + 1)) (hu : 1 ≤ u ∧ u ≤ 4) : WDr (ub D 1 q u) (k + 1) := by
  obtain ⟨⟨a1, a2, a3, a4⟩, b, c, c', e, f, g, i⟩ := hk
  have r : ∀ x l, x ≠ 1 → ub D 1 q u x l = D x l := fun x l hx => ub_n _ _ (fun z => hx z.1)
  have e6 := nW_of (D := D) (D' := ub D 1 q u) (r 0 6 (by decide))
  have e7 := nP_of (D := D) (D' := ub D 1 q u) (r 0 7 (by decide))
  refine ⟨⟨?_, ?_, ?_, ?_⟩, ?_, ?_, fun z => by omega, ?_, ?_, ?_, ?_⟩
  · rw [r 0 0 (by decide)]; exact a1
  · rw [r 0 3 (by decide)]; exact a2
  · rw [r 0 6 (by decide), e6]; exact a3
  · rw [r 0 7 (by decide), e7]; exact a4
  · rw [r 0 1 (by decide)]; exact b
  · rw [r 0 4 (by decide), r 0 0 (by decide)]; exact c
  · rw [r 0 5 (by decide)]; exact e
  · intro p hp
    by_cases z : p = q
    · subst z; rw [ub_s]; exact hu
    · rw [ub_n _ _ (fun y => z y.2)]; exact f p hp
  · intro w hw; rw [r 2 w (by decide), r 7 w (by decide)]; exact g w (by omega)
  · intro x hx; rw [r 4 x (by decide), r 5 x (by decide), e6]; exact i x (by omega)
theorem WDr.next {D : Blk} {k : Nat} (h : WDr D k) : WDr D (k + 1) := by
  obtain ⟨a, b, c, c', d⟩ := h
  exact ⟨a, b, c, fun z => by omega, d⟩
theorem itm_wd {tb : Nat → Int32} {tn k a a' f0 : Nat} {c : Int32} {D D' : Blk} (h : WDr D k) (ha : a ≤ tn) (e : itm tb tn D k c a f0 = .inr (D', a')) : WDr D' (k + 1) ∧ a < a' ∧ a' ≤ tn ∧ ZK D D' := by
  unfold itm at e
  have zu : ∀ {j q : Nat} {v : Int32} (hj : j ≠ 6 ∧ j ≠ 10 ∧ j ≠ 11), ZK D (ub D j q v) := fun hj => (ZK.rf D).u hj
  split at e
  · split at e
    · cases e
    · cases e1 : rdE tb tn a 0 (D 0 0 - 1) with
      | inl f => rw [e1] at e; cases e
      | inr q =>
        obtain ⟨v, a1⟩ := q
        rw [e1] at e; cases e
        obtain ⟨i1, i2, i3, i4⟩ := rdE_in ha e1
        obtain ⟨q, q1, q2, q3⟩ := pl_nI h.1 i1 i2
        exact ⟨h.sc (by decide) (fun z => absurd z (by decide)) (fun z => absurd z (by decide)) (fun z => absurd z (by decide)) (fun _ => ⟨i1, q3⟩) (fun z => absurd z (by decide)), i3, i4, zu (by decide)⟩
  · split at e
    · cases e1 : rdE tb tn a 0 (D 0 0 - 1) with
      | inl f => rw [e1] at e; cases e
      | inr q =>
        obtain ⟨v, a1⟩ := q
        rw [e1] at e
        obtain ⟨i1, i2, i3, i4⟩ := rdE_in ha e1
        cases e2 : rdE tb tn a1 1 4 with
        | inl f => simp only [e2] at e; cases e
        | inr q =>
          obtain ⟨u, a2⟩ := q
          simp only [e2] at e; cases e
          obtain ⟨j1, j2, j3, j4⟩ := rdE_in i4 e2
          exact ⟨h.cost h.next ⟨j1, j2⟩, by omega, j4, zu (by decide)⟩
    · split at e
      · split at e
        · cases e
        · rename_i h47
          cases e1 : rdE tb tn a 0 (D 0 6 - 1) with
          | inl f => rw [e1] at e; cases e
          | inr q =>
            obtain ⟨v, a1⟩ := q
            rw [e1] at e
            obtain ⟨i1, i2, i3, i4⟩ := rdE_in ha e1
            cases e2 : rdE tb tn a1 0 (D 0 6 - 1) with
            | inl f => simp only [e2] at e; cases e
            | inr q =>
              obtain ⟨u, a2⟩ := q
              simp only [e2] at e
              obtain ⟨j1, j2, j3, j4⟩ := rdE_in i4 e2
              split at e
              · cases e
              · cases e
                obtain ⟨x, x1, x2⟩ := wg_nI h.1 i1 i2
                obtain ⟨y, y1, y2⟩ := wg_nI h.1 j1 j2
                rw [x2, y2]
                exact ⟨(h.pair h47 x1 y1).1, by omega, j4, (((zu (by decide)).u (by decide)).u (by decide))⟩
      · split at e
        · cases e1 : rdE tb tn a 0 (D 0 0 - 1) with
          | inl f => rw [e1] at e; cases e
          | inr q =>
            obtain ⟨v, a1⟩ := q
            rw [e1] at e; cases e
            obtain ⟨i1, i2, i3, i4⟩ := rdE_in ha e1
            obtain ⟨q, q1, q2, q3⟩ := pl_nI h.1 i1 i2
            refine ⟨h.sc (by decide) (fun z => absurd z (by decide)) (fun z => absurd z (by decide)) (fun z => absurd z (by decide)) (fun z => absurd z (by decide)) (fun _ => ?_), i3, i4, zu (by decide)⟩
            obtain ⟨c, c1, c2⟩ := h.2.2.2.2.1
            rw [q2, one_shl q q1, c2, nI_or]
            exact ⟨c ||| 2 ^ q, Nat.or_lt_two_pow (n := 12) c1 (Nat.pow_lt_pow_right (by decide) q1), rfl⟩
        · split at e
          · split at e
            · cases e
            · rename_i hk
              cases e1 : rdE tb tn a 4 12 with
              | inl f => rw [e1] at e; cases e
              | inr q =>
                obtain ⟨v, a1⟩ := q
                rw [e1] at e; cases e
                obtain ⟨i1, i2, i3, i4⟩ := rdE_in ha e1
                refine ⟨h.sc (by decide) (fun _ => ⟨by omega, ?_⟩) (fun z => absurd z (by decide)) (fun z => absurd z (by decide)) (fun z => absurd z (by decide)) (fun z => absurd z (by decide)), i3, i4, zu (by decide)⟩
                obtain ⟨q, q1, q2⟩ := nI_of2 (x := v) (M := 12) (n := 12) rfl (Int32.not_lt.mpr (Int32.le_trans (by decide) i1)) i2
                refine ⟨q, ?_, q1, q2⟩
                rw [q2, show (4 : Int32) = nI 4 from rfl, nI_leI (by omega) (by omega)] at i1
                exact i1
          · split at e
            · split at e
              · cases e
              · cases e1 : rdE tb tn a 1 9 with
                | inl f => rw [e1] at e; cases e
                | inr q =>
                  obtain ⟨v, a1⟩ := q
                  rw [e1] at e
                  obtain ⟨i1, i2, i3, i4⟩ := rdE_in ha e1
                  cases e2 : rdE tb tn a1 1 20 with
                  | inl f => simp only [e2] at e; cases e
                  | inr q =>
                    obtain ⟨u, a2⟩ := q
                    simp only [e2] at e; cases e
                    obtain ⟨j1, j2, j3, j4⟩ := rdE_in i4 e2
                    have w1 : WDr (ub D 0 3 1) (k + 1) := h.sc (by decide) (fun z => absurd z (by decide)) (fun z => absurd z (by decide)) (fun _ => Or.inr rfl) (fun z => absurd z (by decide)) (fun z => absurd z (by decide))
                    have fix : ∀ {E : Blk}, WDr E (k + 1 + 1) → WDr E (k + 1) := fun {E} ⟨x1, x2, x3, x4, x5⟩ => ⟨x1, x2, x3, fun z => by omega, x5⟩
                    have w2 := fix (w1.sc (j := 1) (v := v) (by decide) (fun z => absurd z (by decide)) (fun _ => ⟨i1, i2⟩) (fun z => absurd z (by decide)) (fun z => absurd z (by decide)) (fun z => absurd z (by decide)))
                    have w3 := fix (w2.sc (j := 2) (v := u) (by decide) (fun z => absurd z (by decide)) (fun z => absurd z (by decide)) (fun z => absurd z (by decide)) (fun z => absurd z (by decide)) (fun z => absurd z (by decide)))
                    exact ⟨w3, by omega, j4, ((zu (by decide)).u (by decide)).u (by decide)⟩
            · split at e
              · split at e
                · cases e
                · rename_i h5
                  cases e1 : rdE tb tn a 0 20 with
                  | inl f => rw [e1] at e; cases e
                  | inr q =>
                    obtain ⟨v, a1⟩ := q
                    rw [e1] at e
                    obtain ⟨i1, i2, i3, i4⟩ := rdE_in ha e1
                    cases e2 : rdE tb tn a1 0 3 with
                    | inl f => simp only [e2] at e; cases e
                    | inr q =>
                      obtain ⟨u, a2⟩ := q
                      simp only [e2] at e
                      obtain ⟨j1, j2, j3, j4⟩ := rdE_in i4 e2
                      cases e3 : rdE tb tn a2 0 9 with
                      | inl f => simp only [e3] at e; cases e
                      | inr q =>
                        obtain ⟨w, a3⟩ := q
                        simp only [e3] at e
                        obtain ⟨l1, l2, l3, l4⟩ := rdE_in j4 e3
                        cases e4 : rdE tb tn a3 0 2 with
                        | inl f => simp only [e4] at e; cases e
                        | inr q =>
                          obtain ⟨z, a4⟩ := q
                          simp only [e4] at e
                          obtain ⟨m1, m2, m3, m4⟩ := rdE_in l4 e4
                          split at e
                          · cases e
                          · cases e
                            exact ⟨(h.wag h5 ⟨i1, i2⟩ ⟨j1, j2⟩).1, by omega, m4, (((((zu (by decide)).u (by decide)).u (by decide)).u (by decide)).u (by decide))⟩
              · cases e
