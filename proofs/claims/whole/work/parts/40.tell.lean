/-! ALL ITEMS -/
def prs (tb : Nat → Int32) (tn : Nat) : Nat → Blk → Nat → Nat → Nat ⊕ (Blk × Nat)
  | 0, D, k, _ => .inr (D, k)
  | f + 1, D, k, a => if (tkO tb tn a).1 = 0 then .inr (D, k) else match itm tb tn D k (if (tkO tb tn a).1 = 1 then (tkO tb tn a).2.2.1 else 0) (tkO tb tn a).2.2.2 (tkO tb tn a).2.1 with
    | .inl g => .inl g
    | .inr (D', a') => match spE tb tn a' with
      | .inl g => .inl g
      | .inr a2 => prs tb tn f D' (k + 1) a2
theorem spE_in {tb : Nat → Int32} {tn a a' : Nat} (ha : a ≤ tn) (h : spE tb tn a = .inr a') : a < a' ∧ a' ≤ tn := by
  unfold spE at h
  split at h
  · rename_i q
    cases h
    have t := tk_in (tb := tb) ha
    have := t.2.2.2 (by rw [q]; decide)
    exact ⟨by omega, t.2.2.1⟩
  · cases h
theorem ZK.trans {D E F : Blk} (h : ZK D E) (h2 : ZK E F) : ZK D F := ⟨h2.1.trans h.1, h2.2.1.trans h.2.1, h2.2.2.trans h.2.2⟩
section
variable {T : Th} {M : Mm} {d p tn : Nat} {tb : Nat → Int32}
def TPost (M : Mm) (d p tn : Nat) (D : Blk) (s : Nat ⊕ (Blk × Nat)) (Q : Int32 → Mm → Prop) : Prop :=
  (∀ D' k' r', s = .inr (D', k') → WDr D' k' → k' ≤ tn → ZK D D' → r' 1 = nI tn → Q (nI k') (cP M d p D' r')) ∧ ∀ g D' r', s = .inl g → g ≤ tn → ZK D D' → r' 1 = nI tn → Q ((-10) - nI g) (cP M d p D' r')
theorem l_tell {Q : Int32 → Mm → Prop} (h4 : isX4 T p) (h1 : isX1 T d) (hd : p + 1 < d) (htn : tn ≤ 200) (ht : ∀ k, k < tn → M.1 (p + 1) k = tb k) :
    ∀ (f k a : Nat) (D : Blk) (r : Nat → Int32), tn < a + f → k ≤ a → a ≤ tn → WDr D k → r 1 = nI tn → r 6 = 0 → CTk r (tkO tb tn a) → TPost M d p tn D (prs tb tn f D k a) Q → WP T mX4_tell 18 [(0, .ref p), (1, .ref d), (2, .int (nI k)), (3, .int (nI k))] [] (cP M d p D r) (qi Q) := by
  intro f
  induction f with
  | zero => intro k a D r h; omega
  | succ f ih =>
    intro k a D r hf hka ha hW h1r h6 hc hq
    obtain ⟨c2, c3, c4, c5⟩ := hc
    refine sg_X4_tell_18 h4 h1 ⟨fun z => absurd z (nI_nlt (a := 200) (by omega) (by omega)), fun _ => ?_⟩
    rw [cP_p, c3, h6]
    simp only [prs] at hq
    have fault : ∀ (g : Nat) (k' : Int32) (i : Nat) (D' : Blk) (r' : Nat → Int32), i ≤ 200 → CBad tn r' g → Q ((-10) - nI g) (cP M d p D' r') → WP T mX4_tell 18 [(0, .ref p), (1, .ref d), (2, .int k'), (3, .int (nI (i + 1)))] [] (cP M d p D' r') (qi Q) := by
      intro g k' i D' r' hi hb hQ
      have end69 : WP T mX4_tell 69 [(0, .ref p), (2, .int k')] [] (cP M d p D' r') (qi Q) := by
        refine sg_X4_tell_69 h4 ?_
        rw [cP_p, hb.2.1, hb.2.2.1]
        exact ⟨fun z => absurd z (by decide), fun _ => hQ⟩
      refine sg_X4_tell_18 h4 h1 ⟨fun _ => end69, fun _ => ⟨fun _ => end69, fun _ => ⟨fun _ => end69, fun z => ?_⟩⟩⟩
      rw [cP_p, hb.2.1] at z; exact absurd z (by decide)
    refine ⟨fun z => ?_, fun z => ⟨fun z2 => absurd rfl z2, fun _ => ?_⟩⟩
    · rw [if_pos z] at hq
      refine sg_X4_tell_69 h4 ?_
      rw [cP_p, h6]
      exact ⟨fun _ => hq.1 D k r rfl hW (by omega) (ZK.rf D) h1r, fun z2 => absurd rfl z2⟩
    · rw [if_neg z] at hq
      have t := tk_in (tb := tb) ha
      have hlt := t.2.2.2 z
      refine c_tellItem (a := (tkO tb tn a).2.2.2) (f0 := (tkO tb tn a).2.1) h4 h1 hd htn ht t.2.2.1 ⟨h1r, h6, c2⟩ ⟨c4, tk_f ha⟩ hW.1 (by omega) ⟨fun D' a' r' e hok => ?_, fun g D' r' e hb hz => ?_⟩
      · rw [c3, c5] at e
        simp only [e] at hq
        obtain ⟨w1, w2, w3, w4⟩ := itm_wd hW t.2.2.1 e
        refine c_stop h4 hd htn ht w3 hok (fun a2 r2 e2 hok2 => ?_) (fun g r2 e2 hb => ?_)
        · simp only [e2] at hq
          obtain ⟨s1, s2⟩ := spE_in w3 e2
          rw [cP_p, hok2.2.1, nI_1]
          simp only [forall_eq]
          refine ⟨fun z => absurd trivial z, fun _ => cP_tok h4 hd htn ht s2 hok2.1 hok2.2.2 (fun r3 e1 e6 ec => ?_)⟩
          refine ih (k + 1) a2 D' r3 (by omega) (by omega) s2 w1 (by rw [e1]; exact hok2.1) (by rw [e6]; exact hok2.2.1) ec ⟨fun D2 k2 r4 x1 x2 x3 x4 x5 => hq.1 D2 k2 r4 x1 x2 x3 (w4.trans x4) x5, fun g D2 r4 x1 x2 x3 x4 => hq.2 g D2 r4 x1 x2 (w4.trans x3) x4⟩
        · simp only [e2] at hq
          rw [cP_p, hb.2.1, nI_1]
          simp only [forall_eq]
          exact ⟨fun _ => fault g _ k D' r2 (by omega) hb (hq.2 g D' r2 rfl hb.2.2.2 w4 hb.1), fun z => absurd z (by decide)⟩
      · rw [c3, c5] at e
        simp only [e] at hq
        refine c_stopB h4 hb ?_
        rw [cP_p, hb.2.1, nI_1]
        simp only [forall_eq]
        exact ⟨fun _ => fault g _ k D' r' (by omega) hb (hq.2 g D' r' rfl hb.2.2.2 hz hb.1), fun z => absurd z (by decide)⟩
theorem c_tell {Q : Int32 → Mm → Prop} {D : Blk} (h4 : isX4 T p) (h1 : isX1 T d) (hd : p + 1 < d) (htn : tn ≤ 200) (ht : ∀ k, k < tn → M.1 (p + 1) k = tb k) (h1r : M.1 p 1 = nI tn) (hW : WDr D 0) (hq : TPost M d p tn D (prs tb tn (tn + 1) D 0 0) Q) : WPi T mX4_tell [.ref p, .ref d] (wB M d 12 D) Q := by
  refine WPM.of (by decide) rfl (Nat.le_of_ble_eq_true rfl) (sg_X4_tell_0 h4 h1 ?_)
  have e0 : wB M d 12 D = cP M d p D (M.1 p) := by
    unfold cP
    have : (wB M d 12 D).1 p = M.1 p := wB_out (by omega)
    rw [← this, pM_self]
  rw [e0, cP_sp]
  simp only [forall_eq]
  rw [cP_sp]
  refine cP_tok h4 hd htn ht (Nat.zero_le _) (by rw [upd_nm _ _ (by decide), upd_nm _ _ (by decide)]; exact h1r) (by rw [upd_nm _ _ (by decide), upd_s]; rfl) (fun r' x1 x6 xc => ?_)
  refine l_tell h4 h1 hd htn ht (tn + 1) 0 0 D r' (by omega) (Nat.le_refl _) (Nat.zero_le _) hW ?_ ?_ xc hq
  · rw [x1, upd_nm _ _ (by decide), upd_nm _ _ (by decide)]; exact h1r
  · rw [x6, upd_s]
end
/-! a new draft -/
def rsB (D : Blk) : Blk := ub (ub (ub (ub (ub (ub (ub (ub D 0 0 8) 0 1 3) 0 2 5) 0 3 0) 0 4 (-9)) 0 5 0) 0 6 0) 0 7 0
def rsD (D : Blk) : Blk := foldF (fun D p => ub D 1 p 1) 0 12 (rsB D)
theorem fold_u1 : ∀ (n i : Nat) (D : Blk), (∀ j l, j ≠ 1 → foldF (fun D p => ub D 1 p 1) i n D j l = D j l) ∧ ∀ l, foldF (fun D p => ub D 1 p 1) i n D 1 l = if i ≤ l ∧ l < i + n then 1 else D 1 l
  | 0, i, D => ⟨fun _ _ _ => rfl, fun l => by simp only [foldF]; rw [if_neg (by omega)]⟩
  | n + 1, i, D => by
    obtain ⟨h1, h2⟩ := fold_u1 n (i + 1) (ub D 1 i 1)
    simp only [foldF]
    refine ⟨fun j l hj => by rw [h1 j l hj, ub_n _ _ (fun z => hj z.1)], fun l => ?_⟩
    rw [h2 l]
    by_cases e : l = i
    · subst e; rw [if_neg (by omega), if_pos (by omega), ub_s]
    · by_cases e2 : i + 1 ≤ l ∧ l < i + 1 + n
      · rw [if_pos e2, if_pos (by omega)]
      · rw [if_neg e2, if_neg (by omega), ub_n _ _ (fun z => e z.2)]
theorem rs_wd (D : Blk) : WDr (rsD D) 0 ∧ ZK D (rsD D) ∧ nW (rsD D) = 0 ∧ nP (rsD D) = 0 := by
  obtain ⟨h1, h2⟩ := fold_u1 12 0 (rsB D)
  have r0 : ∀ l, rsD D 0 l = rsB D 0 l := fun l => h1 0 l (by decide)
  have w0 : nW (rsD D) = 0 := by unfold nW; rw [r0]; rfl
  have p0 : nP (rsD D) = 0 := by unfold nP; rw [r0]; rfl
  have z : ∀ j, j ≠ 0 → j ≠ 1 → rsD D j = D j := fun j j0 j1 => by
    funext l
    rw [show rsD D j l = rsB D j l from h1 j l j1]
    unfold rsB
    rw [ub_n _ _ (fun z => j0 z.1), ub_n _ _ (fun z => j0 z.1), ub_n _ _ (fun z => j0 z.1), ub_n _ _ (fun z => j0 z.1), ub_n _ _ (fun z => j0 z.1), ub_n _ _ (fun z => j0 z.1), ub_n _ _ (fun z => j0 z.1), ub_n _ _ (fun z => j0 z.1)]
  refine ⟨⟨⟨⟨8, by omega, by omega, by rw [r0]; rfl⟩, Or.inl (by rw [r0]; rfl), by rw [w0, r0]; rfl, by rw [p0, r0]; rfl⟩, ⟨by rw [r0, show rsB D 0 1 = 3 from rfl]; decide, by rw [r0, show rsB D 0 1 = 3 from rfl]; decide⟩, Or.inl (by rw [r0]; rfl), fun _ => by rw [r0]; rfl, ⟨0, by omega, by rw [r0]; rfl⟩, fun p hp => ?_, fun w hw => by omega, fun i hi => by omega⟩, ⟨z 6 (by decide) (by decide), z 10 (by decide) (by decide), z 11 (by decide) (by decide)⟩, w0, p0⟩
  rw [show rsD D 1 p = if 0 ≤ p ∧ p < 0 + 12 then 1 else rsB D 1 p from h2 p, if_pos (by omega)]
  exact ⟨by decide, by decide⟩
section
variable {T : Th} {M : Mm} {d : Nat}
theorem s12 (j : Nat) {D : Blk} {k : Nat} {v : Int32} (hj : j < 12) : sI (wB M d 12 D) (d + j) k v = wB M d 12 (ub D j k v) := wB_sI j k v hj
theorem s12_0 {D : Blk} {k : Nat} {v : Int32} : sI (wB M d 12 D) d k v = wB M d 12 (ub D 0 k v) := wB_sI0 k v (by decide)
theorem c_reset {D : Blk} {Q : Mm → Prop} (h1 : isX1 T d) (hq : Q (wB M d 12 (rsD D))) : WPv T mX1_reset [.ref d] (wB M d 12 D) Q := by
  have l44 : ∀ (n i : Nat) (E : Blk), i + n = 12 → Q (wB M d 12 (foldF (fun D p => ub D 1 p 1) i n E)) → WP T mX1_reset 44 [(0, .ref d), (1, .int (nI i))] [] (wB M d 12 E) (qv Q) := by
    intro n
    induction n with
    | zero =>
      intro i E hi hq
      simp only [foldF] at hq
      exact sg_X1_reset_44 h1 ⟨fun _ => hq, fun z => absurd (nI_le (a := 12) (by omega) (by omega)) z⟩
    | succ n ih =>
      intro i E hi hq
      simp only [foldF] at hq
      refine sg_X1_reset_44 h1 ⟨fun z => absurd z (nI_ge (b := 12) (by omega) (by omega)), fun _ => ?_⟩
      rw [cl_nI (by omega), s12 1 (by decide), nI_1]
      simp only [forall_eq]
      exact ⟨vp_nI (by omega) (by decide), ih (i + 1) _ (by omega) hq⟩
  refine WPM.of (by decide) rfl (Nat.le_of_ble_eq_true rfl) (sg_X1_reset_0 h1 ?_)
  simp only [forall_eq, s12_0]
  exact l44 12 0 _ (by omega) hq
/-! settled -/
def mx2 (a b : Int32) : Int32 := if a < b then b else a
def jnS (D : Blk) (i : Nat) : Blk := if hasWg D (D 4 i) = true ∧ hasWg D (D 5 i) = true then ub (ub D 2 (D 4 i).toNatClampNeg (mx2 (D 2 (D 4 i).toNatClampNeg) (D 2 (D 5 i).toNatClampNeg))) 2 (D 5 i).toNatClampNeg (mx2 (D 2 (D 4 i).toNatClampNeg) (D 2 (D 5 i).toNatClampNeg)) else D
def jnB (D : Blk) : Blk := foldF jnS 0 (nP D) D
theorem jnS_row {D : Blk} {i j : Nat} (hj : j ≠ 2) : jnS D i j = D j := by
  unfold jnS
  split
  · funext l; rw [ub_n _ _ (fun z => hj z.1), ub_n _ _ (fun z => hj z.1)]
  · rfl
theorem jnF_row {j : Nat} (hj : j ≠ 2) : ∀ (n i : Nat) (D : Blk), foldF jnS i n D j = D j
  | 0, _, _ => rfl
  | n + 1, i, D => by simp only [foldF]; rw [jnF_row hj n (i + 1), jnS_row hj]
theorem jnB_row {D : Blk} {j : Nat} (hj : j ≠ 2) : jnB D j = D j := jnF_row hj _ _ _
theorem g12 {D : Blk} : GrC (wB M d 12 D) d D := fun j hj => wB_in j (by omega)
theorem r12 {D : Blk} (j : Nat) (hj : j < 12) : (wB M d 12 D).1 (d + j) = D j := wB_in j hj
theorem r12_0 {D : Blk} : (wB M d 12 D).1 d = D 0 := wB_in0 (by decide)
theorem nP_in {D : Blk} {i : Nat} (h : i < nP D) : ¬ D 0 7 ≤ nI i ∧ ¬ 4 ≤ nI i ∧ (nI i).toNatClampNeg = i ∧ vp_in (nI i) 4 ∧ nI i + 1 = nI (i + 1) := limK_in (k := 4) rfl (by decide) h
theorem nP_out {D : Blk} {i : Nat} (hi : i ≤ 4) (h : nP D ≤ i) : D 0 7 ≤ nI i ∨ (¬ D 0 7 ≤ nI i ∧ 4 ≤ nI i) := limK_out (k := 4) rfl (by decide) hi h
theorem hasWg_cl {D : Blk} {v : Int32} (h : hasWg D v = true) : ∃ k, k < 5 ∧ v = nI k := by
  have q := of_decide_eq_true h
  obtain ⟨k, k1, k2⟩ := nI_of2 (x := v) (M := 5) (n := 5) rfl (Int32.not_lt.mpr q.1) (Int32.le_of_lt q.2.2)
  refine ⟨k, ?_, k2⟩
  have := q.2.2
  rw [k2, show (5 : Int32) = nI 5 from rfl, nI_ltI (by omega) (by omega)] at this
  exact this
theorem c_join {D : Blk} {Q : Mm → Prop} (h1 : isX1 T d) (hq : Q (wB M d 12 (jnB D))) : WPv T mX1_joinPaces [.ref d] (wB M d 12 D) Q := by
  have n4 : nP D ≤ 4 := lim_le _ _
  have l2 : ∀ (n i : Nat) (E : Blk), i + n = nP D → E 0 7 = D 0 7 → Q (wB M d 12 (foldF jnS i n E)) → WP T mX1_joinPaces 2 [(0, .ref d), (1, .int (nI i))] [] (wB M d 12 E) (qv Q) := by
    intro n
    induction n with
    | zero =>
      intro i E hi h7 hq
      simp only [foldF] at hq
      have hx := nP_out (D := D) (i := i) (by omega) (by omega)
      refine sg_X1_joinPaces_2 h1 ?_
      rw [r12_0, h7]
      refine ⟨fun _ => hq, fun z => ⟨fun _ => hq, fun z2 => ?_⟩⟩
      rcases hx with hx | hx
      · exact absurd hx z
      · exact absurd hx.2 z2
    | succ n ih =>
      intro i E hi h7 hq
      simp only [foldF] at hq
      obtain ⟨e1, e2, e3, e4, e5⟩ := nP_in (D := D) (i := i) (by omega)
      have ih := ih (i + 1) (jnS E i) (by omega) (by rw [jnS_row (by decide)]; exact h7) hq
      refine sg_X1_joinPaces_2 h1 ?_
      rw [r12_0, h7, r12 4 (by decide), r12 5 (by decide), e3, e5]
      refine ⟨fun z => absurd z e1, fun _ => ⟨fun z => absurd z e2, fun _ => ⟨e4, ?_⟩⟩⟩
      simp only [forall_eq]
      refine ⟨e4, c_hasWagon h1 g12 ?_⟩
      by_cases ha : hasWg E (E 4 i) = true
      · rw [ha]
        refine ⟨fun z => absurd z (by decide), fun _ => c_hasWagon h1 g12 ?_⟩
        by_cases hb : hasWg E (E 5 i) = true
        · rw [hb]
          obtain ⟨a, a1, a2⟩ := hasWg_cl ha
          obtain ⟨b, b1, b2⟩ := hasWg_cl hb
          have va : vp_in (E 4 i) 5 := by rw [a2]; exact vp_nI a1 (by decide)
          have vb : vp_in (E 5 i) 5 := by rw [b2]; exact vp_nI b1 (by decide)
          refine ⟨fun z => absurd z (by decide), fun _ => ⟨va, vb, va, vb, ?_⟩⟩
          rw [r12 2 (by decide), s12 2 (by decide), s12 2 (by decide)]
          rw [show jnS E i = _ from if_pos ⟨ha, hb⟩] at ih
          exact ih
        · rw [show hasWg E (E 5 i) = false by simpa using hb]
          rw [show jnS E i = E from if_neg (fun z => hb z.2)] at ih
          exact ⟨fun _ => ih, fun z => absurd rfl z⟩
      · rw [show hasWg E (E 4 i) = false by simpa using ha]
        rw [show jnS E i = E from if_neg (fun z => ha z.1)] at ih
        exact ⟨fun _ => ih, fun z => absurd rfl z⟩
  exact WPM.of (by decide) rfl (Nat.le_of_ble_eq_true rfl) (sg_X1_joinPaces_0 h1 (l2 (nP D) 0 D (by omega) rfl hq))
def jnN : Nat → Blk → Blk
  | 0, D => D
  | n + 1, D => jnN n (jnB D)
def lfS (D : Blk) (w : Nat) : Blk := ub D 9 w (mins D (nI w) (D 7 w))
def stB (D : Blk) : Blk := foldF lfS 0 (nW D) (jnN (nP D) D)
theorem jnN_row {j : Nat} (hj : j ≠ 2) : ∀ (n : Nat) (D : Blk), jnN n D j = D j
  | 0, _ => rfl
  | n + 1, D => by simp only [jnN]; rw [jnN_row hj n, jnB_row hj]
theorem c_settle {D : Blk} {Q : Mm → Prop} (h1 : isX1 T d) (hq : Q (wB M d 12 (stB D))) : WPv T mX1_settle [.ref d] (wB M d 12 D) Q := by
  have n4 : nP D ≤ 4 := lim_le _ _
  have n5 := nW_le D
  have l27 : ∀ (n i : Nat) (E : Blk), i + n = nW D → E 0 6 = D 0 6 → Q (wB M d 12 (foldF lfS i n E)) → WP T mX1_settle 27 [(0, .ref d), (1, .int (nI i))] [] (wB M d 12 E) (qv Q) := by
    intro n
    induction n with
    | zero =>
      intro i E hi h6 hq
      simp only [foldF] at hq
      have hx := nW_out (G := D) (i := i) (by omega) (by omega)
      refine sg_X1_settle_27 h1 ?_
      rw [r12_0, h6]
      refine ⟨fun _ => hq, fun z => ⟨fun _ => hq, fun z2 => ?_⟩⟩
      rcases hx with hx | hx
      · exact absurd hx z
      · exact absurd hx.2 z2
    | succ n ih =>
      intro i E hi h6 hq
      simp only [foldF] at hq
      obtain ⟨e1, e2, e3, e4, e5⟩ := nW_in (G := D) (i := i) (by omega)
      refine sg_X1_settle_27 h1 ?_
      rw [r12_0, h6, show d + 6 + 1 = d + 7 from rfl, r12 7 (by decide), e3, e5]
      refine ⟨fun z => absurd z e1, fun _ => ⟨fun z => absurd z e2, fun _ => ⟨e4, c_minutesFor h1 g12 ?_⟩⟩⟩
      rw [show d + 6 + 3 = d + 9 from rfl, s12 9 (by decide)]
      simp only [forall_eq]
      exact ⟨e4, ih (i + 1) _ (by omega) (by rw [ub_n _ _ (by omega)]; exact h6) hq⟩
  have l2 : ∀ (n i : Nat) (E : Blk), i + n = nP D → E 0 7 = D 0 7 → E 0 6 = D 0 6 → Q (wB M d 12 (foldF lfS 0 (nW D) (jnN n E))) → WP T mX1_settle 2 [(0, .ref d), (1, .int (nI i))] [] (wB M d 12 E) (qv Q) := by
    intro n
    induction n with
    | zero =>
      intro i E hi h7 h6 hq
      simp only [jnN] at hq
      have hx := nP_out (D := D) (i := i) (by omega) (by omega)
      have nx := l27 (nW D) 0 E (by omega) h6 hq
      refine sg_X1_settle_2 h1 ?_
      rw [r12_0, h7]
      refine ⟨fun _ => nx, fun z => ⟨fun _ => nx, fun z2 => ?_⟩⟩
      rcases hx with hx | hx
      · exact absurd hx z
      · exact absurd hx.2 z2
    | succ n ih =>
      intro i E hi h7 h6 hq
      simp only [jnN] at hq
      obtain ⟨e1, e2, e3, e4, e5⟩ := nP_in (D := D) (i := i) (by omega)
      refine sg_X1_settle_2 h1 ?_
      rw [r12_0, h7, e5]
      refine ⟨fun z => absurd z e1, fun _ => ⟨fun z => absurd z e2, fun _ => c_join h1 ?_⟩⟩
      simp only [forall_eq]
      exact ih (i + 1) (jnB E) (by omega) (by rw [jnB_row (by decide)]; exact h7) (by rw [jnB_row (by decide)]; exact h6) hq
  exact WPM.of (by decide) rfl (Nat.le_of_ble_eq_true rfl) (sg_X1_settle_0 h1 (l2 (nP D) 0 D (by omega) rfl rfl hq))
end
