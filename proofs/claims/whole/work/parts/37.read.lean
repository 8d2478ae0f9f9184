/-! READING: numbers, stops; a draft of 12 rows (ground 0..5, first 6..11) -/
def rdE (tb : Nat → Int32) (tn a : Nat) (lo hi : Int32) : Nat ⊕ (Int32 × Nat) := if (tkO tb tn a).1 = 2 ∧ lo ≤ (tkO tb tn a).2.2.1 ∧ (tkO tb tn a).2.2.1 ≤ hi then .inr ((tkO tb tn a).2.2.1, (tkO tb tn a).2.2.2) else .inl (tkO tb tn a).2.1
theorem rdE_in {tb : Nat → Int32} {tn a a' : Nat} {lo hi v : Int32} (ha : a ≤ tn) (h : rdE tb tn a lo hi = .inr (v, a')) : lo ≤ v ∧ v ≤ hi ∧ a < a' ∧ a' ≤ tn := by
  unfold rdE at h
  split at h
  · rename_i q
    cases h
    have t := tk_in (tb := tb) ha
    have := t.2.2.2 (by rw [q.1]; decide)
    exact ⟨q.2.1, q.2.2, by omega, t.2.2.1⟩
  · cases h
theorem rdE_bad {tb : Nat → Int32} {tn a f : Nat} {lo hi : Int32} (ha : a ≤ tn) (h : rdE tb tn a lo hi = .inl f) : f ≤ tn := by
  unfold rdE at h
  split at h
  · cases h
  · cases h
    have t := tk_in (tb := tb) ha
    omega
theorem tk_f {tb : Nat → Int32} {tn a : Nat} (h : a ≤ tn) : (tkO tb tn a).2.1 ≤ tn := by have := tk_in (tb := tb) h; omega
/-- where a stop must be -/
def spE (tb : Nat → Int32) (tn a : Nat) : Nat ⊕ Nat := if (tkO tb tn a).1 = 3 then .inr (tkO tb tn a).2.2.2 else .inl (tkO tb tn a).2.1
def cP (M : Mm) (d p : Nat) (D : Blk) (r : Nat → Int32) : Mm := pM (wB M d 12 D) p r
section
variable {M : Mm} {d p : Nat} {D : Blk} {r : Nat → Int32}
theorem cP_p : (cP M d p D r).1 p = r := pM_p
theorem cP_d (j : Nat) (hj : j < 12) (hd : p < d) : (cP M d p D r).1 (d + j) = D j := by unfold cP; rw [pM_o (by omega), wB_in j hj]
theorem cP_d0 (hd : p < d) : (cP M d p D r).1 d = D 0 := cP_d (M := M) (p := p) (d := d) (D := D) (r := r) 0 (by decide) hd
theorem cP_o {a : Nat} (h : a < d ∨ d + 12 ≤ a) (hp : a ≠ p) : (cP M d p D r).1 a = M.1 a := by unfold cP; rw [pM_o hp, wB_out h]
theorem cP_sp {k : Nat} {v : Int32} : sI (cP M d p D r) p k v = cP M d p D (upd r k v) := pM_s
theorem cP_sd (j : Nat) {k : Nat} {v : Int32} (hj : j < 12) (hd : p < d) : sI (cP M d p D r) (d + j) k v = cP M d p (ub D j k v) r := by
  unfold cP
  rw [← wB_sI j k v hj]
  refine Prod.ext ?_ rfl
  funext a l
  simp only [sI, pM]
  by_cases h : a = p
  · subst h; rw [if_pos rfl, if_pos rfl, if_neg (by omega)]
  · rw [if_neg h, if_neg h]
theorem cP_sd0 {k : Nat} {v : Int32} (hd : p < d) : sI (cP M d p D r) d k v = cP M d p (ub D 0 k v) r := cP_sd (M := M) (p := p) (d := d) (D := D) (r := r) 0 (by decide) hd
theorem cP_G (hd : p < d) : GrC (cP M d p D r) d D := fun j hj => cP_d j (by omega) hd
theorem cP_F (hd : p < d) : GrC (cP M d p D r) (d + 6) (fun j => D (6 + j)) := fun j hj => by rw [Nat.add_assoc]; exact cP_d (6 + j) (by omega) hd
theorem cP_2 : (cP M d p D r).2 = M.2 := rfl
end
def COk (tn : Nat) (r : Nat → Int32) (a : Nat) : Prop := r 1 = nI tn ∧ r 6 = 0 ∧ r 2 = nI a
def CBad (tn : Nat) (r : Nat → Int32) (f : Nat) : Prop := r 1 = nI tn ∧ r 6 = 1 ∧ r 4 = nI f ∧ f ≤ tn
/-- rows that reading leaves -/
def ZK (D D' : Blk) : Prop := D' 6 = D 6 ∧ D' 10 = D 10 ∧ D' 11 = D 11
theorem ZK.rf (D : Blk) : ZK D D := ⟨rfl, rfl, rfl⟩
theorem ZK.u {D D' : Blk} {j k : Nat} {v : Int32} (h : ZK D D') (hj : j ≠ 6 ∧ j ≠ 10 ∧ j ≠ 11) : ZK D (ub D' j k v) := by
  have e : ∀ i, i ≠ j → ub D' j k v i = D' i := fun i hi => by funext l; exact ub_n _ _ (fun q => hi q.1)
  exact ⟨(e 6 (Ne.symm hj.1)).trans h.1, (e 10 (Ne.symm hj.2.1)).trans h.2.1, (e 11 (Ne.symm hj.2.2)).trans h.2.2⟩
section
variable {T : Th} {M : Mm} {d p tn : Nat} {tb : Nat → Int32} {D : Blk} {r : Nat → Int32}
theorem cP_tok {a : Nat} {Q : Mm → Prop} (h4 : isX4 T p) (hd : p + 1 < d) (htn : tn ≤ 200) (ht : ∀ k, k < tn → M.1 (p + 1) k = tb k) (ha : a ≤ tn) (h1 : r 1 = nI tn) (h2 : r 2 = nI a) (hq : ∀ r', r' 1 = r 1 → r' 6 = r 6 → CTk r' (tkO tb tn a) → Q (cP M d p D r')) : WPv T mX4_readToken [.ref p] (cP M d p D r) Q :=
  c_readToken (M := wB M d 12 D) h4 htn ha (fun k hk => by rw [wB_out (by omega)]; exact ht k hk) h1 h2 hq
theorem c_num {a : Nat} {lo hi : Int32} {Q : Int32 → Mm → Prop} (h4 : isX4 T p) (hd : p + 1 < d) (htn : tn ≤ 200) (ht : ∀ k, k < tn → M.1 (p + 1) k = tb k) (ha : a ≤ tn) (h : COk tn r a)
    (hok : ∀ v a' r', rdE tb tn a lo hi = .inr (v, a') → COk tn r' a' → (r' 4 = nI (tkO tb tn a).2.1 ∧ (tkO tb tn a).2.1 ≤ tn) → Q v (cP M d p D r'))
    (hbad : ∀ f r', rdE tb tn a lo hi = .inl f → CBad tn r' f → Q lo (cP M d p D r')) : WPi T mX4_readNumber [.ref p, .int lo, .int hi] (cP M d p D r) Q := by
  refine WPM.of (by decide) rfl (Nat.le_of_ble_eq_true rfl) (sg_X4_readNumber_0 h4 ?_)
  rw [cP_p, h.2.1]
  refine ⟨fun _ => cP_tok h4 hd htn ht ha h.1 h.2.2 (fun r' e1 e6 ec => ?_), fun z => absurd rfl z⟩
  obtain ⟨c2, c3, c4, c5⟩ := ec
  rw [cP_p, cP_sp, c3, c5]
  simp only [forall_eq]
  have bad : ¬ ((tkO tb tn a).1 = 2 ∧ lo ≤ (tkO tb tn a).2.2.1 ∧ (tkO tb tn a).2.2.1 ≤ hi) → Q lo (cP M d p D (upd r' 6 1)) := fun hn => by
    refine hbad (tkO tb tn a).2.1 _ ?_ ⟨?_, upd_s _ _ _, ?_, tk_f ha⟩
    · unfold rdE; rw [if_neg hn]
    · rw [upd_nm _ _ (by decide), e1]; exact h.1
    · rw [upd_nm _ _ (by decide)]; exact c4
  refine ⟨fun z => bad (fun q => z q.1), fun z => ⟨fun z2 => bad (fun q => absurd q.2.1 (Int32.not_le.mpr z2)), fun z2 => ⟨fun z3 => ?_, fun z3 => bad (fun q => z3 q.2.2)⟩⟩⟩
  refine hok _ (tkO tb tn a).2.2.2 r' ?_ ⟨by rw [e1]; exact h.1, by rw [e6]; exact h.2.1, c2⟩ ⟨c4, tk_f ha⟩
  unfold rdE
  rw [if_pos ⟨z, Int32.not_lt.mp z2, z3⟩]
theorem c_numB {f : Nat} {lo hi : Int32} {Q : Int32 → Mm → Prop} (h4 : isX4 T p) (h : CBad tn r f) (hq : Q lo (cP M d p D r)) : WPi T mX4_readNumber [.ref p, .int lo, .int hi] (cP M d p D r) Q := by
  refine WPM.of (by decide) rfl (Nat.le_of_ble_eq_true rfl) (sg_X4_readNumber_0 h4 ?_)
  rw [cP_p, h.2.1]
  exact ⟨fun z => absurd z (by decide), fun _ => hq⟩
theorem c_stop {a : Nat} {Q : Mm → Prop} (h4 : isX4 T p) (hd : p + 1 < d) (htn : tn ≤ 200) (ht : ∀ k, k < tn → M.1 (p + 1) k = tb k) (ha : a ≤ tn) (h : COk tn r a)
    (hok : ∀ a' r', spE tb tn a = .inr a' → COk tn r' a' → Q (cP M d p D r')) (hbad : ∀ f r', spE tb tn a = .inl f → CBad tn r' f → Q (cP M d p D r')) : WPv T mX4_readStop [.ref p] (cP M d p D r) Q := by
  refine WPM.of (by decide) rfl (Nat.le_of_ble_eq_true rfl) (sg_X4_readStop_0 h4 ?_)
  rw [cP_p, h.2.1]
  refine ⟨fun z => absurd rfl z, fun _ => cP_tok h4 hd htn ht ha h.1 h.2.2 (fun r' e1 e6 ec => ?_)⟩
  obtain ⟨c2, c3, c4, c5⟩ := ec
  rw [cP_p, cP_sp, cP_sp, c3]
  simp only [forall_eq]
  refine ⟨fun z => hok (tkO tb tn a).2.2.2 _ ?_ ⟨by rw [upd_nm _ _ (by decide), e1]; exact h.1, upd_s _ _ _, by rw [upd_nm _ _ (by decide)]; exact c2⟩, fun z => hbad (tkO tb tn a).2.1 _ ?_ ⟨by rw [upd_nm _ _ (by decide), e1]; exact h.1, upd_s _ _ _, by rw [upd_nm _ _ (by decide)]; exact c4, tk_f ha⟩⟩
  · unfold spE; rw [if_pos z]
  · unfold spE; rw [if_neg z]
theorem c_stopB {f : Nat} {Q : Mm → Prop} (h4 : isX4 T p) (h : CBad tn r f) (hq : Q (cP M d p D r)) : WPv T mX4_readStop [.ref p] (cP M d p D r) Q := by
  refine WPM.of (by decide) rfl (Nat.le_of_ble_eq_true rfl) (sg_X4_readStop_0 h4 ?_)
  rw [cP_p, h.2.1]
  exact ⟨fun _ => hq, fun z => absurd z (by decide)⟩
end
/-! ITEMS -/
def takD (D : Blk) (rl w : Int32) : Bool := anyF (fun k => decide (D 7 k = w ∧ D 8 k = rl)) 0 (nW D)
def addW (D : Blk) (w pc wk rl : Int32) : Blk := ub (ub (ub (ub (ub D 2 (nW D) pc) 3 (nW D) wk) 7 (nW D) w) 8 (nW D) rl) 0 6 (D 0 6 + 1)
def nP (D : Blk) : Nat := lim (D 0 7) 4
def addP (D : Blk) (a b : Int32) : Blk := ub (ub (ub D 4 (nP D) a) 5 (nP D) b) 0 7 (D 0 7 + 1)
def itm (tb : Nat → Int32) (tn : Nat) (D : Blk) (k : Nat) (c : Int32) (a f0 : Nat) : Nat ⊕ (Blk × Nat) :=
  if c = 98 then (if ¬ D 0 4 = -9 then .inl f0 else match rdE tb tn a 0 (D 0 0 - 1) with
    | .inl f => .inl f
    | .inr (v, a1) => .inr (ub D 0 4 v, a1))
  else if c = 99 then (match rdE tb tn a 0 (D 0 0 - 1) with
    | .inl f => .inl f
    | .inr (v, a1) => match rdE tb tn a1 1 4 with
      | .inl f => .inl f
      | .inr (u, a2) => .inr (ub D 1 v.toNatClampNeg u, a2))
  else if c = 104 then (if 4 ≤ D 0 7 then .inl f0 else match rdE tb tn a 0 (D 0 6 - 1) with
    | .inl f => .inl f
    | .inr (v, a1) => match rdE tb tn a1 0 (D 0 6 - 1) with
      | .inl f => .inl f
      | .inr (u, a2) => if v = u then .inl (tkO tb tn a1).2.1 else .inr (addP D v u, a2))
  else if c = 112 then (match rdE tb tn a 0 (D 0 0 - 1) with
    | .inl f => .inl f
    | .inr (v, a1) => .inr (ub D 0 5 (D 0 5 ||| (1 <<< (v &&& 31))), a1))
  else if c = 114 then (if 0 < k then .inl f0 else match rdE tb tn a 4 12 with
    | .inl f => .inl f
    | .inr (v, a1) => .inr (ub D 0 0 v, a1))
  else if c = 115 then (if ¬ D 0 3 = 0 then .inl f0 else match rdE tb tn a 1 9 with
    | .inl f => .inl f
    | .inr (v, a1) => match rdE tb tn a1 1 20 with
      | .inl f => .inl f
      | .inr (u, a2) => .inr (ub (ub (ub D 0 3 1) 0 1 v) 0 2 u, a2))
  else if c = 119 then (if 5 ≤ D 0 6 then .inl f0 else match rdE tb tn a 0 20 with
    | .inl f => .inl f
    | .inr (v, a1) => match rdE tb tn a1 0 3 with
      | .inl f => .inl f
      | .inr (u, a2) => match rdE tb tn a2 0 9 with
        | .inl f => .inl f
        | .inr (w, a3) => match rdE tb tn a3 0 2 with
          | .inl f => .inl f
          | .inr (z, a4) => if takD D z v then .inl (tkO tb tn a3).2.1 else .inr (addW D v u w z, a4))
  else .inl f0
