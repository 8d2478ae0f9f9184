/-! THE REFERENCE's ITEMS -/
section
variable {y : Nat} {N : Mm} {D : Blk}
theorem RA.sc {c j : Nat} {v : Int32} (h : RA y N D) (hc : (c = 2 ∧ j = 0) ∨ (c = 3 ∧ j = 1) ∨ (c = 4 ∧ j = 2) ∨ (c = 5 ∧ j = 4) ∨ (c = 6 ∧ j = 5)) : RA y (sI N (y + c) 1 v) (ub D 0 j v) := by
  obtain ⟨⟨a2, a3, a4, a5, a6, a7, a8⟩, hc1, hw, hp⟩ := h
  have j6 : ub D 0 j v 0 6 = D 0 6 := ub_n _ _ (by omega)
  have j7 : ub D 0 j v 0 7 = D 0 7 := ub_n _ _ (by omega)
  have e6 := nW_of j6
  have e7 := nP_of j7
  have key : ∀ c' j', ((c' = 2 ∧ j' = 0) ∨ (c' = 3 ∧ j' = 1) ∨ (c' = 4 ∧ j' = 2) ∨ (c' = 5 ∧ j' = 4) ∨ (c' = 6 ∧ j' = 5)) → N.1 (y + c') 1 = D 0 j' → (sI N (y + c) 1 v).1 (y + c') 1 = ub D 0 j v 0 j' := fun c' j' h1 h2 => by
    by_cases e : c' = c
    · have : j' = j := by omega
      subst this; subst e
      rw [ub_s]; simp [sI]
    · have : j' ≠ j := by omega
      rw [ub_n _ _ (fun z => this z.2), ← h2]; simp only [sI]; rw [if_neg (by omega)]
  refine ⟨⟨key 2 0 (by decide) a2, key 3 1 (by decide) a3, key 4 2 (by decide) a4, key 5 4 (by decide) a5, key 6 5 (by decide) a6, ?_, ?_⟩, fun p hp => ?_, fun w hw' => ?_, fun i hi => ?_⟩
  · rw [j6, ← a7]; simp only [sI]; rw [if_neg (by omega)]
  · rw [j7, ← a8]; simp only [sI]; rw [if_neg (by omega)]
  · rw [ub_n _ _ (by omega), ← hc1 p hp]; simp only [sI]; rw [if_neg (by omega)]
  · rw [ub_n _ _ (by omega), ub_n _ _ (by omega), ub_n _ _ (by omega), ub_n _ _ (by omega)]
    have q := hw w (by omega)
    simp only [sI]; rw [if_neg (by omega), if_neg (by omega), if_neg (by omega), if_neg (by omega)]; exact q
  · rw [ub_n _ _ (by omega), ub_n _ _ (by omega)]
    have q := hp i (by omega)
    simp only [sI]; rw [if_neg (by omega), if_neg (by omega)]; exact q
theorem RA.no3 {v : Int32} (h : RA y N D) : RA y N (ub D 0 3 v) := by
  obtain ⟨⟨a2, a3, a4, a5, a6, a7, a8⟩, hc1, hw, hp⟩ := h
  have o : ∀ q, q ≠ 3 → ub D 0 3 v 0 q = D 0 q := fun q hq => ub_n _ _ (fun z => hq z.2)
  have e6 := nW_of (D := D) (D' := ub D 0 3 v) (o 6 (by decide))
  have e7 := nP_of (D := D) (D' := ub D 0 3 v) (o 7 (by decide))
  refine ⟨⟨by rw [o 0 (by decide)]; exact a2, by rw [o 1 (by decide)]; exact a3, by rw [o 2 (by decide)]; exact a4, by rw [o 4 (by decide)]; exact a5, by rw [o 5 (by decide)]; exact a6, by rw [o 6 (by decide)]; exact a7, by rw [o 7 (by decide)]; exact a8⟩, fun p hp => ?_, fun w hw' => ?_, fun i hi => ?_⟩
  · rw [ub_n _ _ (by omega)]; exact hc1 p hp
  · rw [ub_n _ _ (by omega), ub_n _ _ (by omega), ub_n _ _ (by omega), ub_n _ _ (by omega)]; exact hw w (by omega)
  · rw [ub_n _ _ (by omega), ub_n _ _ (by omega)]; exact hp i (by omega)
theorem RA.cost {q : Nat} {u : Int32} (h : RA y N D) : RA y (sI N (y + 9) (12 + q) u) (ub D 1 q u) := by
  obtain ⟨⟨a2, a3, a4, a5, a6, a7, a8⟩, hc1, hw, hp⟩ := h
  have o : ∀ x l, x ≠ 1 → ub D 1 q u x l = D x l := fun x l hx => ub_n _ _ (fun z => hx z.1)
  have e6 := nW_of (D := D) (D' := ub D 1 q u) (o 0 6 (by decide))
  have e7 := nP_of (D := D) (D' := ub D 1 q u) (o 0 7 (by decide))
  have s : ∀ c k, c ≠ 9 → (sI N (y + 9) (12 + q) u).1 (y + c) k = N.1 (y + c) k := fun c k hc => by simp only [sI]; rw [if_neg (by omega)]
  refine ⟨⟨by rw [s 2 1 (by decide), o 0 0 (by decide)]; exact a2, by rw [s 3 1 (by decide), o 0 1 (by decide)]; exact a3, by rw [s 4 1 (by decide), o 0 2 (by decide)]; exact a4, by rw [s 5 1 (by decide), o 0 4 (by decide)]; exact a5, by rw [s 6 1 (by decide), o 0 5 (by decide)]; exact a6, by rw [s 7 1 (by decide), o 0 6 (by decide)]; exact a7, by rw [s 8 1 (by decide), o 0 7 (by decide)]; exact a8⟩, fun p hp => ?_, fun w hw' => ?_, fun i hi => ?_⟩
  · by_cases e : p = q
    · subst e; rw [ub_s]; simp [sI]
    · rw [ub_n _ _ (fun z => e z.2), ← hc1 p hp]; simp only [sI]; rw [if_neg (by omega)]
  · rw [s 10 _ (by decide), s 11 _ (by decide), s 12 _ (by decide), s 13 _ (by decide), o 7 _ (by decide), o 2 _ (by decide), o 3 _ (by decide), o 8 _ (by decide)]; exact hw w (by omega)
  · rw [s 14 _ (by decide), s 15 _ (by decide), o 4 _ (by decide), o 5 _ (by decide)]; exact hp i (by omega)
theorem RA.wag {v u w z : Int32} (h : RA y N D) (h6 : D 0 6 = nI (nW D)) (hn : nW D < 5) : RA y (sI (sI (sI (sI (sI N (y + 11) (5 + nW D) u) (y + 12) (5 + nW D) w) (y + 13) (5 + nW D) z) (y + 10) (5 + nW D) v) (y + 7) 1 (D 0 6 + 1)) (addW D v u w z) := by
  obtain ⟨⟨a2, a3, a4, a5, a6, a7, a8⟩, hc1, hw, hp⟩ := h
  have o : ∀ q, q ≠ 6 → addW D v u w z 0 q = D 0 q := fun q hq => by unfold addW; rw [ub_n _ _ (fun z => hq z.2), ub_n _ _ (by omega), ub_n _ _ (by omega), ub_n _ _ (by omega), ub_n _ _ (by omega)]
  have s6 : addW D v u w z 0 6 = D 0 6 + 1 := by unfold addW; rw [ub_s]
  have e6 : nW (addW D v u w z) = nW D + 1 := by
    have : addW D v u w z 0 6 = nI (nW D + 1) := by rw [s6, h6, nI_1]
    unfold nW at *; rw [this]; exact lim_nI (by omega) (by omega)
  have e7 := nP_of (D := D) (D' := addW D v u w z) (o 7 (by decide))
  have rr : ∀ x l, x ≠ 0 → x ≠ 2 → x ≠ 3 → x ≠ 7 → x ≠ 8 → addW D v u w z x l = D x l := fun x l h0 h2 h3 h7 h8 => by unfold addW; rw [ub_n _ _ (fun z => h0 z.1), ub_n _ _ (fun z => h8 z.1), ub_n _ _ (fun z => h7 z.1), ub_n _ _ (fun z => h3 z.1), ub_n _ _ (fun z => h2 z.1)]
  generalize hN : sI (sI (sI (sI (sI N (y + 11) (5 + nW D) u) (y + 12) (5 + nW D) w) (y + 13) (5 + nW D) z) (y + 10) (5 + nW D) v) (y + 7) 1 (D 0 6 + 1) = N2
  have s : ∀ c k, (c = 7 → k ≠ 1) → (10 ≤ c → c ≤ 13 → k ≠ 5 + nW D) → N2.1 (y + c) k = N.1 (y + c) k := fun c k h1 h2 => by
    rw [← hN]; simp only [sI]
    rw [if_neg (by omega), if_neg (by omega), if_neg (by omega), if_neg (by omega), if_neg (by omega)]
  refine ⟨⟨by rw [s 2 1 (by decide) (by omega), o 0 (by decide)]; exact a2, by rw [s 3 1 (by decide) (by omega), o 1 (by decide)]; exact a3, by rw [s 4 1 (by decide) (by omega), o 2 (by decide)]; exact a4, by rw [s 5 1 (by decide) (by omega), o 4 (by decide)]; exact a5, by rw [s 6 1 (by decide) (by omega), o 5 (by decide)]; exact a6, by rw [s6, ← hN]; simp [sI], by rw [s 8 1 (by decide) (by omega), o 7 (by decide)]; exact a8⟩, fun p hp => ?_, fun q hq => ?_, fun i hi => ?_⟩
  · rw [s 9 _ (by omega) (by omega), rr 1 p (by decide) (by decide) (by decide) (by decide) (by decide)]; exact hc1 p hp
  · by_cases e : q = nW D
    · subst e
      refine ⟨?_, ?_, ?_, ?_⟩
      · rw [← hN]; unfold addW; rw [ub_n _ _ (by omega), ub_n _ _ (by omega), ub_s]; simp [sI]
      · rw [← hN]; unfold addW; rw [ub_n _ _ (by omega), ub_n _ _ (by omega), ub_n _ _ (by omega), ub_n _ _ (by omega), ub_s]; simp [sI]
      · rw [← hN]; unfold addW; rw [ub_n _ _ (by omega), ub_n _ _ (by omega), ub_n _ _ (by omega), ub_s]; simp [sI]
      · rw [← hN]; unfold addW; rw [ub_n _ _ (by omega), ub_s]; simp [sI]
    · have a : ∀ x, x ≠ 0 → addW D v u w z x q = D x q := fun x h0 => by unfold addW; rw [ub_n _ _ (fun z => h0 z.1), ub_n _ _ (fun z => e z.2), ub_n _ _ (fun z => e z.2), ub_n _ _ (fun z => e z.2), ub_n _ _ (fun z => e z.2)]
      rw [s 10 _ (by omega) (by omega), s 11 _ (by omega) (by omega), s 12 _ (by omega) (by omega), s 13 _ (by omega) (by omega), a 7 (by decide), a 2 (by decide), a 3 (by decide), a 8 (by decide)]
      exact hw q (by omega)
  · rw [s 14 _ (by omega) (by omega), s 15 _ (by omega) (by omega), rr 4 i (by decide) (by decide) (by decide) (by decide) (by decide), rr 5 i (by decide) (by decide) (by decide) (by decide) (by decide)]; exact hp i (by omega)
theorem RA.pair {a b : Int32} (h : RA y N D) (h7 : D 0 7 = nI (nP D)) (hn : nP D < 4) : RA y (sI (sI (sI N (y + 14) (4 + nP D) a) (y + 15) (4 + nP D) b) (y + 8) 1 (D 0 7 + 1)) (addP D a b) := by
  obtain ⟨⟨a2, a3, a4, a5, a6, a7, a8⟩, hc1, hw, hp⟩ := h
  have o : ∀ q, q ≠ 7 → addP D a b 0 q = D 0 q := fun q hq => by unfold addP; rw [ub_n _ _ (fun z => hq z.2), ub_n _ _ (by omega), ub_n _ _ (by omega)]
  have s7 : addP D a b 0 7 = D 0 7 + 1 := by unfold addP; rw [ub_s]
  have e7 : nP (addP D a b) = nP D + 1 := by
    have : addP D a b 0 7 = nI (nP D + 1) := by rw [s7, h7, nI_1]
    unfold nP at *; rw [this]; exact lim_nI (by omega) (by omega)
  have e6 := nW_of (D := D) (D' := addP D a b) (o 6 (by decide))
  have rr : ∀ x l, x ≠ 0 → x ≠ 4 → x ≠ 5 → addP D a b x l = D x l := fun x l h0 h4 h5 => by unfold addP; rw [ub_n _ _ (fun z => h0 z.1), ub_n _ _ (fun z => h5 z.1), ub_n _ _ (fun z => h4 z.1)]
  generalize hN : sI (sI (sI N (y + 14) (4 + nP D) a) (y + 15) (4 + nP D) b) (y + 8) 1 (D 0 7 + 1) = N2
  have s : ∀ c k, (c = 8 → k ≠ 1) → (c = 14 ∨ c = 15 → k ≠ 4 + nP D) → N2.1 (y + c) k = N.1 (y + c) k := fun c k h1 h2 => by
    rw [← hN]; simp only [sI]
    rw [if_neg (by omega), if_neg (by omega), if_neg (by omega)]
  refine ⟨⟨by rw [s 2 1 (by decide) (by omega), o 0 (by decide)]; exact a2, by rw [s 3 1 (by decide) (by omega), o 1 (by decide)]; exact a3, by rw [s 4 1 (by decide) (by omega), o 2 (by decide)]; exact a4, by rw [s 5 1 (by decide) (by omega), o 4 (by decide)]; exact a5, by rw [s 6 1 (by decide) (by omega), o 5 (by decide)]; exact a6, by rw [s 7 1 (by decide) (by omega), o 6 (by decide)]; exact a7, by rw [s7, ← hN]; simp [sI]⟩, fun p hp => ?_, fun q hq => ?_, fun i hi => ?_⟩
  · rw [s 9 _ (by omega) (by omega), rr 1 p (by decide) (by decide) (by decide)]; exact hc1 p hp
  · rw [s 10 _ (by omega) (by omega), s 11 _ (by omega) (by omega), s 12 _ (by omega) (by omega), s 13 _ (by omega) (by omega), rr 7 q (by decide) (by decide) (by decide), rr 2 q (by decide) (by decide) (by decide), rr 3 q (by decide) (by decide) (by decide), rr 8 q (by decide) (by decide) (by decide)]; exact hw q (by omega)
  · by_cases e : i = nP D
    · subst e
      refine ⟨?_, ?_⟩
      · rw [← hN]; unfold addP; rw [ub_n _ _ (by omega), ub_n _ _ (by omega), ub_s]; simp [sI]
      · rw [← hN]; unfold addP; rw [ub_n _ _ (by omega), ub_s]; simp [sI]
    · have a' : ∀ x, x ≠ 0 → addP D a b x i = D x i := fun x h0 => by unfold addP; rw [ub_n _ _ (fun z => h0 z.1), ub_n _ _ (fun z => e z.2), ub_n _ _ (fun z => e z.2)]
      rw [s 14 _ (by omega) (by omega), s 15 _ (by omega) (by omega), a' 4 (by decide), a' 5 (by decide)]
      exact hp i (by omega)
end
def RPost (y : Nat) (N0 : Mm) (tb : Nat → Int32) (tn k : Nat) (s : Nat ⊕ (Blk × Nat)) (Q : Mm → Prop) : Prop :=
  (∀ D' a' N' r', s = .inr (D', a') → ROk tb tn r' a' → RA y N' D' → RSs r' D' k → RFr y N0 N' → Q (pM N' y r')) ∧ ∀ f N' r', s = .inl f → RBad tn r' f → RFr y N0 N' → Q (pM N' y r')
