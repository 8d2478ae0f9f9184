/-! THE REFERENCE READS -/
def ROk (tb : Nat → Int32) (tn : Nat) (r : Nat → Int32) (a : Nat) : Prop := r 2 = nI tn ∧ r 22 = -9 ∧ RTk r (tkO tb tn a)
def RBad (tn : Nat) (r : Nat → Int32) (f : Nat) : Prop := r 2 = nI tn ∧ r 22 = nI f ∧ f ≤ tn ∧ ∃ m, m ≤ 999 ∧ r 21 = nI m
/-- the slots that items have -/
def RSl (r r' : Nat → Int32) : Prop := r' 23 = r 23 ∧ r' 24 = r 24 ∧ r' 25 = r 25
theorem RSl.rf (r : Nat → Int32) : RSl r r := ⟨rfl, rfl, rfl⟩
theorem RSl.trans {r s t : Nat → Int32} (h : RSl r s) (h2 : RSl s t) : RSl r t := ⟨h2.1.trans h.1, h2.2.1.trans h.2.1, h2.2.2.trans h.2.2⟩
theorem nI_m9 {f : Nat} (h : f ≤ 200) : ¬ nI f = -9 := fun e => by
  have h0 := nI_pos' (n := f) (by omega)
  rw [e] at h0
  exact absurd h0 (by decide)
theorem tk_kinds (tb : Nat → Int32) (tn a : Nat) : ((tkO tb tn a).1 = 0 ∨ (tkO tb tn a).1 = 1 ∨ (tkO tb tn a).1 = 2 ∨ (tkO tb tn a).1 = 3 ∨ (tkO tb tn a).1 = 4) ∧ ((tkO tb tn a).1 = 1 → (tkO tb tn a).2.2.1 = 0 ∨ (97 ≤ (tkO tb tn a).2.2.1 ∧ (tkO tb tn a).2.2.1 ≤ 122)) := by
  unfold tkO tkS
  split
  · exact ⟨Or.inl rfl, fun z => absurd z (by show ¬ (0 : Int32) = 1; decide)⟩
  · split
    · rename_i hl
      refine ⟨Or.inr (Or.inl rfl), fun _ => ?_⟩
      show (if _ then _ else (0 : Int32)) = 0 ∨ _
      by_cases q : rnF (fun k => isLe (tb k)) tn (tn - (sk tb tn a + 1)) (sk tb tn a + 1) = sk tb tn a + 1
      · right; show 97 ≤ (if _ then _ else (0 : Int32)) ∧ (if _ then _ else (0 : Int32)) ≤ 122
        rw [if_pos q]; exact of_decide_eq_true hl
      · left; rw [if_neg q]
    · split
      · refine ⟨?_, fun z => ?_⟩
        · show (if _ then (4 : Int32) else 2) = 0 ∨ (if _ then (4 : Int32) else 2) = 1 ∨ (if _ then (4 : Int32) else 2) = 2 ∨ _ ∨ (if _ then (4 : Int32) else 2) = 4
          split
          · exact Or.inr (Or.inr (Or.inr (Or.inr rfl)))
          · exact Or.inr (Or.inr (Or.inl rfl))
        · have z : (if tb (sk tb tn a) = 48 ∧ sk tb tn a + 1 < tn ∧ isDi (tb (sk tb tn a + 1)) = true then (4 : Int32) else 2) = 1 := z
          split at z
          · exact absurd z (by decide)
          · exact absurd z (by decide)
      · refine ⟨?_, fun z => ?_⟩
        · show (if _ then (3 : Int32) else 4) = 0 ∨ (if _ then (3 : Int32) else 4) = 1 ∨ (if _ then (3 : Int32) else 4) = 2 ∨ (if _ then (3 : Int32) else 4) = 3 ∨ (if _ then (3 : Int32) else 4) = 4
          split
          · exact Or.inr (Or.inr (Or.inr (Or.inl rfl)))
          · exact Or.inr (Or.inr (Or.inr (Or.inr rfl)))
        · have z : (if tb (sk tb tn a) = 59 then (3 : Int32) else 4) = 1 := z
          split at z
          · exact absurd z (by decide)
          · exact absurd z (by decide)
theorem kR_1 (tb : Nat → Int32) (tn a : Nat) : kR (tkO tb tn a) = 1 ↔ (tkO tb tn a).1 = 2 ∧ (tkO tb tn a).2.2.1 ≤ 99 := by
  obtain ⟨h1, h2⟩ := tk_kinds tb tn a
  unfold kR
  generalize (tkO tb tn a) = τ at h1 h2 ⊢
  rcases h1 with h | h | h | h | h
  · simp [h]
  · simp only [h]
    rcases h2 h with q | q
    · simp [q]
    · have : ¬ τ.2.2.1 = 0 := fun e => by rw [e] at q; exact absurd q.1 (by decide)
      have h3 : ¬ τ.2.2.1 = 1 := fun e => by rw [e] at q; exact absurd q.1 (by decide)
      simp [this, h3]
  · simp [h]
  · simp [h]
  · simp [h]
theorem kR_2 (tb : Nat → Int32) (tn a : Nat) : kR (tkO tb tn a) = 2 ↔ (tkO tb tn a).1 = 3 := by
  obtain ⟨h1, h2⟩ := tk_kinds tb tn a
  unfold kR
  generalize (tkO tb tn a) = τ at h1 h2 ⊢
  rcases h1 with h | h | h | h | h
  · simp [h]
  · simp only [h]
    rcases h2 h with q | q
    · simp [q]
    · have : ¬ τ.2.2.1 = 0 := fun e => by rw [e] at q; exact absurd q.1 (by decide)
      have h3 : ¬ τ.2.2.1 = 2 := fun e => by rw [e] at q; exact absurd q.1 (by decide)
      simp [this, h3]
  · simp only [h]; by_cases q : τ.2.2.1 ≤ 99 <;> simp [q]
  · simp [h]
  · simp [h]
theorem kR_3 (tb : Nat → Int32) (tn a : Nat) : kR (tkO tb tn a) = 3 ↔ (tkO tb tn a).1 = 0 := by
  obtain ⟨h1, h2⟩ := tk_kinds tb tn a
  unfold kR
  generalize (tkO tb tn a) = τ at h1 h2 ⊢
  rcases h1 with h | h | h | h | h
  · simp [h]
  · simp only [h]
    rcases h2 h with q | q
    · simp [q]
    · have : ¬ τ.2.2.1 = 0 := fun e => by rw [e] at q; exact absurd q.1 (by decide)
      have h3 : ¬ τ.2.2.1 = 3 := fun e => by rw [e] at q; exact absurd q.1 (by decide)
      simp [this, h3]
  · simp only [h]; by_cases q : τ.2.2.1 ≤ 99 <;> simp [q]
  · simp [h]
  · simp [h]
/-- an item's letter -/
def ltr (τ : Tok) : Int32 := if τ.1 = 1 then τ.2.2.1 else 0
theorem kR_l (tb : Nat → Int32) (tn a : Nat) (c : Int32) (hc : 97 ≤ c) : kR (tkO tb tn a) = c ↔ ltr (tkO tb tn a) = c := by
  obtain ⟨h1, h2⟩ := tk_kinds tb tn a
  unfold kR ltr
  generalize (tkO tb tn a) = τ at h1 h2 ⊢
  have n0 : ¬ 0 = c := fun e => by rw [← e] at hc; exact absurd hc (by decide)
  have n1 : ¬ 1 = c := fun e => by rw [← e] at hc; exact absurd hc (by decide)
  have n2 : ¬ 2 = c := fun e => by rw [← e] at hc; exact absurd hc (by decide)
  have n3 : ¬ 3 = c := fun e => by rw [← e] at hc; exact absurd hc (by decide)
  have n4 : ¬ 4 = c := fun e => by rw [← e] at hc; exact absurd hc (by decide)
  rcases h1 with h | h | h | h | h
  · simp [h, n0, n3]
  · simp only [h]
    by_cases q : τ.2.2.1 = 0
    · simp [q, n0, n4]
    · simp [q]
  · simp only [h]; by_cases q : τ.2.2.1 ≤ 99 <;> simp [q, n0, n1, n4]
  · simp [h, n0, n2]
  · simp [h, n0, n4]
section
variable {T : Th} {N : Mm} {y tn : Nat} {tb : Nat → Int32} {r : Nat → Int32}
theorem r_dueB {f : Nat} {x1 : Int32} {Q : Int32 → Mm → Prop} (h7 : isX7 T y) (htn : tn ≤ 200) (h : RBad tn r f) (hq : ∀ m, m ≤ 999 → Q (nI m) (pM N y r)) : WPi T mX7_due [.ref y, .int x1] (pM N y r) Q := by
  refine WPM.of (by decide) rfl (Nat.le_of_ble_eq_true rfl) (sg_X7_due_0 h7 ?_)
  obtain ⟨h2, h22, hf, m, m1, m2⟩ := h
  rw [pM_p, h22, m2]
  simp only [forall_eq]
  exact ⟨fun _ => hq m m1, fun z => absurd z (nI_m9 (by omega))⟩
theorem r_due0 {a : Nat} {Q : Int32 → Mm → Prop} (h7 : isX7 T y) (ha : a ≤ tn) (h : ROk tb tn r a) (hq : ∀ m r', m ≤ 999 → RBad tn r' (tkO tb tn a).2.1 → RSl r r' → Q (nI m) (pM N y r')) : WPi T mX7_due [.ref y, .int 0] (pM N y r) Q := by
  refine WPM.of (by decide) rfl (Nat.le_of_ble_eq_true rfl) (sg_X7_due_0 h7 ?_)
  obtain ⟨h2, h22, t18, t19, t20, ⟨m, m1, m2⟩, tv⟩ := h
  rw [pM_p, h22, m2, t19, pM_s]
  simp only [forall_eq]
  refine ⟨fun z => absurd trivial z, fun _ => ⟨fun _ => hq m _ m1 ⟨by rw [upd_nm _ _ (by decide)]; exact h2, upd_s _ _ _, tk_f ha, m, m1, by rw [upd_nm _ _ (by decide)]; exact m2⟩ ⟨upd_nm _ _ (by decide), upd_nm _ _ (by decide), upd_nm _ _ (by decide)⟩, fun z => absurd trivial z⟩⟩
theorem r_due1 {a : Nat} {Q : Int32 → Mm → Prop} (h7 : isX7 T y) (htn : tn ≤ 200) (ht : ∀ k, k < tn → N.1 (y + 1) k = (tb k).toInt8.toInt32) (hb : ∀ k, k < tn → 0 ≤ tb k ∧ tb k ≤ 255) (ha : a ≤ tn) (h : ROk tb tn r a) (hq : ∀ r', ROk tb tn r' (tkO tb tn a).2.2.2 → RSl r r' → Q (r 21) (pM N y r')) : WPi T mX7_due [.ref y, .int 1] (pM N y r) Q := by
  refine WPM.of (by decide) rfl (Nat.le_of_ble_eq_true rfl) (sg_X7_due_0 h7 ?_)
  obtain ⟨h2, h22, t18, t19, t20, t21, tv⟩ := h
  rw [pM_p, h22]
  simp only [forall_eq]
  refine ⟨fun z => absurd trivial z, fun _ => ⟨fun z => absurd z (by decide), fun _ => ?_⟩⟩
  refine r_next h7 htn ht hb (tk_in (tb := tb) ha).2.2.1 h2 t18 (fun r' e1 e2 => hq r' ⟨by rw [e1 2 (by decide) (by decide) (by decide) (by decide)]; exact h2, by rw [e1 22 (by decide) (by decide) (by decide) (by decide)]; exact h22, e2⟩ ⟨e1 23 (by decide) (by decide) (by decide) (by decide), e1 24 (by decide) (by decide) (by decide) (by decide), e1 25 (by decide) (by decide) (by decide) (by decide)⟩)
theorem r_num {a : Nat} {lo hi : Int32} {Q : Int32 → Mm → Prop} (h7 : isX7 T y) (htn : tn ≤ 200) (ht : ∀ k, k < tn → N.1 (y + 1) k = (tb k).toInt8.toInt32) (hb : ∀ k, k < tn → 0 ≤ tb k ∧ tb k ≤ 255) (ha : a ≤ tn) (h : ROk tb tn r a) (h99 : hi ≤ 99)
    (hok : ∀ v a' r', rdE tb tn a lo hi = .inr (v, a') → ROk tb tn r' a' → RSl r r' → Q v (pM N y r'))
    (hbad : ∀ f m r', rdE tb tn a lo hi = .inl f → m ≤ 999 → RBad tn r' f → RSl r r' → Q (nI m) (pM N y r')) : WPi T mX7_number [.ref y, .int lo, .int hi] (pM N y r) Q := by
  have h' := h
  obtain ⟨h2, h22, t18, t19, t20, t21, tv⟩ := h'
  have bad : ¬ ((tkO tb tn a).1 = 2 ∧ lo ≤ (tkO tb tn a).2.2.1 ∧ (tkO tb tn a).2.2.1 ≤ hi) → WPi T mX7_due [.ref y, .int 0] (pM N y r) (fun v2 M1 => Q v2 M1) := fun hn =>
    r_due0 h7 ha h (fun m r' m1 b1 s1 => hbad _ m r' (by unfold rdE; rw [if_neg hn]) m1 b1 s1)
  refine WPM.of (by decide) rfl (Nat.le_of_ble_eq_true rfl) (sg_X7_number_0 h7 ?_)
  rw [pM_p, t20, kR_1]
  refine ⟨fun z => bad (fun q => z ⟨q.1, Int32.le_trans q.2.2 h99⟩), fun z => r_in ?_⟩
  rw [tv z.1 z.2]
  by_cases q : lo ≤ (tkO tb tn a).2.2.1 ∧ (tkO tb tn a).2.2.1 ≤ hi
  · rw [if_pos q]
    refine ⟨fun z => absurd z (by decide), fun _ => r_due1 h7 htn ht hb ha h (fun r' b1 s1 => ?_)⟩
    rw [tv z.1 z.2]
    exact hok _ _ r' (by unfold rdE; rw [if_pos ⟨z.1, q⟩]) b1 s1
  · rw [if_neg q]
    exact ⟨fun _ => bad (fun p => q p.2), fun z => absurd rfl z⟩
theorem r_numB {f : Nat} {lo hi : Int32} {Q : Int32 → Mm → Prop} (h7 : isX7 T y) (htn : tn ≤ 200) (h : RBad tn r f) (hq : ∀ m, m ≤ 999 → Q (nI m) (pM N y r)) : WPi T mX7_number [.ref y, .int lo, .int hi] (pM N y r) Q := by
  refine WPM.of (by decide) rfl (Nat.le_of_ble_eq_true rfl) (sg_X7_number_0 h7 ?_)
  refine ⟨fun _ => r_dueB h7 htn h hq, fun _ => r_in ⟨fun _ => r_dueB h7 htn h hq, fun _ => r_dueB h7 htn h hq⟩⟩
end
/-! the reference's draft -/
def RA (y : Nat) (N : Mm) (D : Blk) : Prop :=
  (N.1 (y + 2) 1 = D 0 0 ∧ N.1 (y + 3) 1 = D 0 1 ∧ N.1 (y + 4) 1 = D 0 2 ∧ N.1 (y + 5) 1 = D 0 4 ∧ N.1 (y + 6) 1 = D 0 5 ∧ N.1 (y + 7) 1 = D 0 6 ∧ N.1 (y + 8) 1 = D 0 7) ∧
  (∀ p, p < 12 → N.1 (y + 9) (12 + p) = D 1 p) ∧ (∀ w, w < nW D → N.1 (y + 10) (5 + w) = D 7 w ∧ N.1 (y + 11) (5 + w) = D 2 w ∧ N.1 (y + 12) (5 + w) = D 3 w ∧ N.1 (y + 13) (5 + w) = D 8 w) ∧
  ∀ i, i < nP D → N.1 (y + 14) (4 + i) = D 4 i ∧ N.1 (y + 15) (4 + i) = D 5 i
def RSs (r : Nat → Int32) (D : Blk) (k : Nat) : Prop := r 23 = nI k ∧ (r 24 = 0 ↔ D 0 3 = 0) ∧ (r 25 = 0 ↔ D 0 4 = -9)
def RFr (y : Nat) (N0 N : Mm) : Prop := (∀ c, 2 ≤ c → c ≤ 8 → N.1 (y + c) 0 = N0.1 (y + c) 0) ∧ (∀ p, p < 12 → N.1 (y + 9) p = N0.1 (y + 9) p) ∧ (∀ c, 10 ≤ c → c ≤ 13 → ∀ w, w < 5 → N.1 (y + c) w = N0.1 (y + c) w) ∧ (∀ w, w < 10 → 0 ≤ N.1 (y + 10) w) ∧ N.1 (y + 1) = N0.1 (y + 1) ∧ (∀ c, 16 ≤ c → N.1 (y + c) = N0.1 (y + c)) ∧ N.2 = N0.2
theorem RFr.s {y c k : Nat} {N0 N : Mm} {v : Int32} (h : RFr y N0 N) (hc : (2 ≤ c ∧ c ≤ 8 ∧ k = 1) ∨ (c = 9 ∧ 12 ≤ k) ∨ (10 ≤ c ∧ c ≤ 13 ∧ 5 ≤ k) ∨ c = 14 ∨ c = 15) (hv : c = 10 → 0 ≤ v) : RFr y N0 (sI N (y + c) k v) := by
  obtain ⟨h1, h2, h3, h4, h5, h6, h7⟩ := h
  refine ⟨fun q q1 q2 => ?_, fun p hp => ?_, fun q q1 q2 w hw => ?_, fun w hw => ?_, ?_, fun q q1 => ?_, h7⟩
  · rw [← h1 q q1 q2]; simp only [sI]; rw [if_neg (by omega)]
  · rw [← h2 p hp]; simp only [sI]; rw [if_neg (by omega)]
  · rw [← h3 q q1 q2 w hw]; simp only [sI]; rw [if_neg (by omega)]
  · simp only [sI]
    by_cases e : y + 10 = y + c ∧ w = k
    · rw [if_pos e]; exact hv (by omega)
    · rw [if_neg e]; exact h4 w hw
  · rw [← h5]; funext j; simp only [sI]; rw [if_neg (by omega)]
  · rw [← h6 q q1]; funext j; simp only [sI]; rw [if_neg (by omega)]
theorem pM_sy {N : Mm} {y c k : Nat} {r : Nat → Int32} {v : Int32} (hc : 1 ≤ c) : sI (pM N y r) (y + c) k v = pM (sI N (y + c) k v) y r := by
  refine Prod.ext ?_ rfl
  funext a l
  simp only [sI, pM]
  by_cases h : a = y
  · subst h; rw [if_pos rfl, if_pos rfl, if_neg (by omega)]
  · rw [if_neg h, if_neg h]
theorem pM_c {N : Mm} {y : Nat} {r : Nat → Int32} (c : Nat) (hc : 1 ≤ c) : (pM N y r).1 (y + c) = N.1 (y + c) := pM_o (by omega)
