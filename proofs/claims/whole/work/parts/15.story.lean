/-! STORIES: what is known, taken back, kept -/
def Ag (B C : Blk) : Prop := C 0 0 = B 0 0 ∧ C 0 1 = B 0 1 ∧ ∀ j, 1 ≤ j → j < 6 → ∀ k, k < 5 → C j k = B j k
theorem Ag.rf (B : Blk) : Ag B B := ⟨rfl, rfl, fun _ _ _ _ _ => rfl⟩
theorem Rw.ag {n : Nat} {B C : Blk} {r : Nat → Int32} (hn : n ≤ 5) (h : Rw n B r) (a : Ag B C) : Rw n C r := by
  obtain ⟨a1, a2, a3⟩ := a
  refine ⟨by rw [a1]; exact h.1, fun w hw => ?_⟩
  rw [a2, a3 1 (by decide) (by decide) w (by omega), a3 2 (by decide) (by decide) w (by omega), a3 3 (by decide) (by decide) w (by omega), a3 4 (by decide) (by decide) w (by omega), a3 5 (by decide) (by decide) w (by omega)]
  exact h.2 w hw
theorem Wb.ag {n t : Nat} {B C : Blk} (hn : n ≤ 5) (h : Wb n B t) (a : Ag B C) : Wb n C t := by
  obtain ⟨a1, a2, a3⟩ := a
  refine ⟨by rw [a1]; exact h.1, by obtain ⟨c, q1, q2⟩ := h.2.1; exact ⟨c, q1, by rw [a2]; exact q2⟩, fun w hw => ?_⟩
  rw [a3 1 (by decide) (by decide) w (by omega), a3 3 (by decide) (by decide) w (by omega)]
  exact h.2.2 w hw
theorem Wm.ag {n : Nat} {B C : Blk} (hn : n ≤ 5) (h : Wm n B) (a : Ag B C) : Wm n C := by
  obtain ⟨⟨t, ht, hb⟩, h2⟩ := h
  refine ⟨⟨t, ht, hb.ag hn a⟩, fun w hw => ?_⟩
  rw [a.2.2 4 (by decide) (by decide) w (by omega)]
  exact h2 w hw
def FrS (s : Nat) (M M' : Mm) : Prop := (∀ a, (a < s ∨ s + 68 ≤ a) → M'.1 a = M.1 a) ∧ M'.2.1 = M.2.1 ∧ (∀ a, a ≠ s + 7 → M'.2.2 a = M.2.2 a) ∧ ∀ k, k ≠ 2 → M'.1 s k = M.1 s k
/-- now has come to what is known -/
def Rem (S S' : Stt) : Prop := S'.1 = S.1 ∧ (S.2.1 < 10 → S'.2.1 = S.2.1 + 1 ∧ ∀ i, i < S.2.1 → S'.2.2 i = S.2.2 i) ∧ (S.2.1 = 10 → S'.2.1 = 10 ∧ ∀ i, i < 9 → S'.2.2 i = S.2.2 (i + 1)) ∧ Ag S.1 (S'.2.2 (S'.2.1 - 1))
theorem l_lose {T : Th} {s x1 : Nat} {Q : Mm → Prop} (h5 : isX5 T s) (hm : ∀ k, k < 10 → isX2 T (s + 8 + 6 * k)) (h1 : isX2 T x1) {M : Mm} (hS : StL M s) (hx : x1 = M.2.2 (s + 7) 0)
    (hq : ∀ M', (∀ a, a ≠ s → M'.1 a = M.1 a) → (∀ k, k ≠ 2 → M'.1 s k = M.1 s k) → M'.1 s 2 = 9 → M'.2.1 = M.2.1 → (∀ a, a ≠ s + 7 → M'.2.2 a = M.2.2 a) → (∀ i, i < 9 → M'.2.2 (s + 7) i = M.2.2 (s + 7) (i + 1)) → M'.2.2 (s + 7) 9 = M.2.2 (s + 7) 0 → Q M') :
    ∀ (n i : Nat) (N : Mm), i + n = 10 → 1 ≤ i → N.1 = M.1 → N.2.1 = M.2.1 → (∀ a, a ≠ s + 7 → N.2.2 a = M.2.2 a) → (∀ k, k + 1 < i → N.2.2 (s + 7) k = M.2.2 (s + 7) (k + 1)) → (∀ k, i ≤ k → N.2.2 (s + 7) k = M.2.2 (s + 7) k) → WP T mX5_loseOldest 9 [(0, .ref s), (1, .ref x1), (2, .int (nI i))] [] N (qv Q) := by
  obtain ⟨π, p1, p2⟩ := hS
  intro n
  induction n with
  | zero =>
    intro i N hi h1i e1 e2 e3 e4 e5
    refine sg_X5_loseOldest_9 h5 h1 ⟨fun _ => ?_, fun z => absurd (nI_le (a := 10) (by omega) (by omega)) z⟩
    intro M1 q1 M2 q2
    have g1 : M2.1 = (sI N s 2 9).1 := by rw [q2, q1]; rfl
    have g2 : M2.2.2 = (sR N (s + 7) 9 x1).2.2 := by rw [q2, q1]; rfl
    refine hq M2 ?_ ?_ ?_ ?_ ?_ ?_ ?_
    · intro a ha; rw [g1, ← e1]; funext k; simp [sI, ha]
    · intro k hk; rw [g1, ← e1]; simp [sI, hk]
    · rw [g1]; simp [sI]
    · rw [q2, q1]; exact e2
    · intro a ha; rw [g2, ← e3 a ha]; funext k; simp [sR, ha]
    · intro k hk; rw [g2]; simp only [sR]; rw [if_neg (by omega)]; exact e4 k (by omega)
    · rw [g2, ← hx]; simp [sR]
  | succ n ih =>
    intro i N hi h1i e1 e2 e3 e4 e5
    refine sg_X5_loseOldest_9 h5 h1 ⟨fun z => absurd z (nI_ge (b := 10) (by omega) (by omega)), fun _ => ⟨vp_nI (by omega) (by decide), ?_⟩⟩
    have hm1 : nI i - 1 = nI (i - 1) := by have := nI_pred (i - 1); rw [Nat.sub_add_cancel h1i] at this; exact this
    rw [cl_nI (by omega), hm1, cl_nI (by omega), nI_1, e5 i (Nat.le_refl i)]
    simp only [forall_eq]
    refine ⟨by rw [(p1 i (by omega)).2]; exact hm _ (p1 i (by omega)).1, vp_nI (by omega) (by decide), ?_⟩
    refine ih (i + 1) _ (by omega) (by omega) e1 e2 ?_ ?_ ?_
    · intro a ha; rw [← e3 a ha]; funext k; simp [sR, ha]
    · intro k hk
      simp only [sR]
      by_cases e : k = i - 1
      · rw [if_pos ⟨trivial, e⟩, e, Nat.sub_add_cancel h1i]
      · rw [if_neg (by omega)]; exact e4 k (by omega)
    · intro k hk; simp only [sR]; rw [if_neg (by omega)]; exact e5 k (by omega)
theorem c_lose {T : Th} {s : Nat} {M : Mm} {Q : Mm → Prop} (h5 : isX5 T s) (hm : ∀ k, k < 10 → isX2 T (s + 8 + 6 * k)) (hS : StL M s)
    (hq : ∀ M', (∀ a, a ≠ s → M'.1 a = M.1 a) → (∀ k, k ≠ 2 → M'.1 s k = M.1 s k) → M'.1 s 2 = 9 → M'.2.1 = M.2.1 → (∀ a, a ≠ s + 7 → M'.2.2 a = M.2.2 a) → (∀ i, i < 9 → M'.2.2 (s + 7) i = M.2.2 (s + 7) (i + 1)) → M'.2.2 (s + 7) 9 = M.2.2 (s + 7) 0 → Q M') : WPv T mX5_loseOldest [.ref s] M Q := by
  refine WPM.of (by decide) rfl (Nat.le_of_ble_eq_true rfl) (sg_X5_loseOldest_0 h5 ?_)
  simp only [forall_eq]
  have hx : isX2 T (M.2.2 (s + 7) 0) := by
    obtain ⟨π, p1, p2⟩ := hS
    rw [(p1 0 (by omega)).2]; exact hm _ (p1 0 (by omega)).1
  exact ⟨hx, l_lose h5 hm hx hS rfl hq 9 1 M (by omega) (by omega) rfl rfl (fun _ _ => rfl) (fun k hk => by omega) (fun _ _ => rfl)⟩
theorem c_rem13 {T : Th} {s : Nat} {M : Mm} {S : Stt} {Q : Mm → Prop} (h5 : isX5 T s) (hm : ∀ k, k < 10 → isX2 T (s + 8 + 6 * k)) (hL : StL M s) (hS : StC M s S) (hk : S.2.1 < 10)
    (hq : ∀ M' C, Ag S.1 C → FrS s M M' → StL M' s → StC M' s (S.1, S.2.1 + 1, fun i => if i = S.2.1 then C else S.2.2 i) → Q M') : WP T mX5_remember 13 [(0, .ref s)] [] M (qv Q) := by
  have hL' := hL
  obtain ⟨π, p1, p2⟩ := hL
  obtain ⟨s1, s2, s3, s4⟩ := hS
  refine sg_X5_remember_13 h5 ?_
  rw [s2]
  refine ⟨fun z => absurd z (nI_pos (by omega)), fun _ => ⟨fun z => absurd z (nI_ge (b := 10) (by omega) (by omega)), fun _ => ⟨vp_nI hk (by decide), ?_⟩⟩⟩
  rw [cl_nI (by omega)]
  simp only [forall_eq]
  obtain ⟨q1, q2⟩ := p1 S.2.1 hk
  have hx : isX2 T (M.2.2 (s + 7) S.2.1) := by rw [q2]; exact hm _ q1
  refine ⟨hx, vp_nI hk (by decide), hx, c_copyM hx h5.2.1 s1 (by rw [q2]; omega) (fun C c1 c2 c3 => ?_)⟩
  have o1 : ∀ a, a ≠ s → (a < s + 8 + 6 * π S.2.1 ∨ s + 8 + 6 * π S.2.1 + 6 ≤ a) → (sI (wB M (M.2.2 (s + 7) S.2.1) 6 C) s 2 ((wB M (M.2.2 (s + 7) S.2.1) 6 C).1 s 2 + 1)).1 a = M.1 a := fun a ha hb => by
    rw [q2]; funext k; simp only [sI]; rw [if_neg (by omega), wB_out hb]
  have os : (wB M (M.2.2 (s + 7) S.2.1) 6 C).1 s = M.1 s := by rw [q2]; exact wB_out (by omega)
  refine hq _ C ⟨c1, c2, c3⟩ ⟨fun a ha => o1 a (by omega) (by omega), rfl, fun _ _ => rfl, fun k hk => ?_⟩ (hL'.kept rfl) ⟨?_, ?_, by show S.2.1 + 1 ≤ 10; omega, fun i hi => ?_⟩
  · simp only [sI]; rw [if_neg (by omega), os]
  · exact s1.kept (fun j hj => o1 _ (by omega) (by omega))
  · simp only [sI]; rw [if_pos ⟨trivial, trivial⟩, os, s2, nI_1]
  · show GrC _ (M.2.2 (s + 7) i) _
    by_cases e : i = S.2.1
    · subst e
      simp only [if_true]
      intro j hj
      have h9 : M.2.2 (s + 7) S.2.1 + j ≠ s := by rw [q2]; omega
      have : (sI (wB M (M.2.2 (s + 7) S.2.1) 6 C) s 2 ((wB M (M.2.2 (s + 7) S.2.1) 6 C).1 s 2 + 1)).1 (M.2.2 (s + 7) S.2.1 + j) = (wB M (M.2.2 (s + 7) S.2.1) 6 C).1 (M.2.2 (s + 7) S.2.1 + j) := by
        funext k; simp only [sI]; rw [if_neg (fun q => h9 q.1)]
      rw [this]; exact wB_in j hj
    · have hi' : i < S.2.1 := by have : i < S.2.1 + 1 := hi; omega
      simp only [e, if_false]
      obtain ⟨u1, u2⟩ := p1 i (by omega)
      have hne : π i ≠ π S.2.1 := fun q => e (p2 i S.2.1 (by omega) hk q)
      exact (s4 i hi').kept (fun j hj => o1 _ (by rw [u2]; omega) (by rw [u2]; omega))
theorem c_remember {T : Th} {s : Nat} {M : Mm} {S : Stt} {Q : Mm → Prop} (h5 : isX5 T s) (hm : ∀ k, k < 10 → isX2 T (s + 8 + 6 * k)) (hL : StL M s) (hS : StC M s S)
    (hq : ∀ M' S', FrS s M M' → StL M' s → StC M' s S' → Rem S S' → Q M') : WPv T mX5_remember [.ref s] M Q := by
  refine WPM.of (by decide) rfl (Nat.le_of_ble_eq_true rfl) (sg_X5_remember_0 h5 ?_)
  have s2 := hS.2.1
  have s3 := hS.2.2.1
  rw [s2]
  by_cases hk : S.2.1 < 10
  · refine ⟨fun _ => c_rem13 h5 hm hL hS hk (fun M' C ha hf hl hs => hq M' _ hf hl hs ⟨rfl, fun _ => ⟨rfl, fun i hi => ?_⟩, fun e => absurd e (by omega), ?_⟩), fun z => absurd (nI_lt (b := 10) hk (by omega)) z⟩
    · show (if i = S.2.1 then C else S.2.2 i) = _
      rw [if_neg (by omega)]
    · show Ag S.1 (if S.2.1 + 1 - 1 = S.2.1 then C else S.2.2 (S.2.1 + 1 - 1))
      rw [if_pos (by omega)]; exact ha
  · have e10 : S.2.1 = 10 := by omega
    refine ⟨fun z => absurd z (nI_nlt (b := 10) (by omega) (by omega)), fun _ => c_lose h5 hm hL (fun M1 a1 a2 a3 a4 a6 a7 a8 => ?_)⟩
    have hL1 : StL M1 s := by
      obtain ⟨π, p1, p2⟩ := hL
      refine ⟨fun i => if i < 9 then π (i + 1) else π 0, fun i hi => ?_, fun i j hi hj e => ?_⟩
      · by_cases h : i < 9
        · simp only [h, if_true]; rw [a7 i h]; exact p1 (i + 1) (by omega)
        · have : i = 9 := by omega
          subst this
          simp only [Nat.lt_irrefl, if_false]; rw [a8]; exact p1 0 (by omega)
      · by_cases h : i < 9 <;> by_cases h' : j < 9 <;> simp only [h, h', if_true, if_false] at e
        · have := p2 _ _ (by omega) (by omega) e; omega
        · have := p2 _ _ (by omega) (by omega) e; omega
        · have := p2 _ _ (by omega) (by omega) e; omega
        · omega
    obtain ⟨π, p1, p2⟩ := hL
    have hS1 : StC M1 s (S.1, 9, fun i => S.2.2 (i + 1)) := by
      refine ⟨hS.1.kept (fun j hj => a1 _ (by omega)), a3, by show 9 ≤ 10; omega, fun i hi => ?_⟩
      have hi9 : i < 9 := hi
      rw [a7 i hi9]
      exact (hS.2.2.2 (i + 1) (by omega)).kept (fun j hj => a1 _ (by rw [(p1 (i + 1) (by omega)).2]; omega))
    refine c_rem13 h5 hm hL1 hS1 (by show 9 < 10; omega) (fun M' C ha hf hl hs => hq M' _ ⟨fun a hx => ?_, ?_, fun a hx => ?_, fun k hk => ?_⟩ hl hs ⟨rfl, fun q => absurd q (by omega), fun _ => ⟨rfl, fun i hi => ?_⟩, ha⟩)
    · rw [hf.1 a hx, a1 a (by omega)]
    · rw [hf.2.1, a4]
    · rw [hf.2.2.1 a hx, a6 a hx]
    · rw [hf.2.2.2 k hk, a2 k hk]
    · show (if i = 9 then C else S.2.2 (i + 1)) = _
      rw [if_neg (by omega)]
theorem c_takeBack {T : Th} {s : Nat} {M : Mm} {S : Stt} {Q : Int32 → Mm → Prop} (h5 : isX5 T s) (hm : ∀ k, k < 10 → isX2 T (s + 8 + 6 * k)) (hL : StL M s) (hS : StC M s S)
    (hq0 : S.2.1 = 0 → Q 0 M) (hq : ∀ M' C, 0 < S.2.1 → Ag (S.2.2 (S.2.1 - 1)) C → FrS s M M' → StL M' s → StC M' s (C, S.2.1 - 1, S.2.2) → Q 1 M') : WPi T mX5_takeBack [.ref s] M Q := by
  have hL' := hL
  obtain ⟨π, p1, p2⟩ := hL
  obtain ⟨s1, s2, s3, s4⟩ := hS
  refine WPM.of (by decide) rfl (Nat.le_of_ble_eq_true rfl) (sg_X5_takeBack_0 h5 ?_)
  rw [s2]
  by_cases h0 : S.2.1 = 0
  · refine ⟨fun _ => hq0 h0, fun z => absurd ?_ z⟩
    rw [h0]; decide
  · have hm1 : nI S.2.1 - 1 = nI (S.2.1 - 1) := by have := nI_pred (S.2.1 - 1); rw [Nat.sub_add_cancel (by omega)] at this; exact this
    refine ⟨fun z => absurd z (nI_nlt (b := 1) (by omega) (by omega)), fun _ => ⟨fun z => absurd z (nI_nlt (a := 10) (by omega) (by omega)), fun _ => ?_⟩⟩
    rw [hm1, cl_nI (by omega)]
    simp only [forall_eq]
    obtain ⟨q1, q2⟩ := p1 (S.2.1 - 1) (by omega)
    have hx : isX2 T (M.2.2 (s + 7) (S.2.1 - 1)) := by rw [q2]; exact hm _ q1
    have e1 : (sI M s 2 (nI (S.2.1 - 1))).1 s 2 = nI (S.2.1 - 1) := by simp [sI]
    rw [e1, cl_nI (by omega)]
    have o0 : ∀ a, a ≠ s → (sI M s 2 (nI (S.2.1 - 1))).1 a = M.1 a := fun a ha => by funext k; simp [sI, ha]
    refine ⟨vp_nI (by omega) (by decide), hx, vp_nI (by omega) (by decide), hx, ?_⟩
    have hB : GrC (sI M s 2 (nI (S.2.1 - 1))) (M.2.2 (s + 7) (S.2.1 - 1)) (S.2.2 (S.2.1 - 1)) := (s4 (S.2.1 - 1) (by omega)).kept (fun j hj => o0 _ (by rw [q2]; omega))
    show WPv T mX2_copyFrom [.ref (s + 1), .ref (M.2.2 (s + 7) (S.2.1 - 1))] _ _
    refine c_copyM h5.2.1 hx hB (by rw [q2]; omega) (fun C c1 c2 c3 => ?_)
    have o1 : ∀ a, a ≠ s → (a < s + 1 ∨ s + 7 ≤ a) → (wB (sI M s 2 (nI (S.2.1 - 1))) (s + 1) 6 C).1 a = M.1 a := fun a ha hb => by
      rw [wB_out (by omega), o0 a ha]
    refine hq _ C (by omega) ⟨c1, c2, c3⟩ ⟨fun a ha => o1 a (by omega) (by omega), rfl, fun _ _ => rfl, fun k hk => ?_⟩ (hL'.kept rfl) ⟨GrC.own, ?_, by show S.2.1 - 1 ≤ 10; omega, fun i hi => ?_⟩
    · rw [wB_out (by omega)]; simp [sI, hk]
    · rw [wB_out (by omega)]; exact e1
    · have hi' : i < S.2.1 - 1 := hi
      obtain ⟨u1, u2⟩ := p1 i (by omega)
      exact (s4 i (by omega)).kept (fun j hj => o1 _ (by show M.2.2 (s + 7) i + j ≠ s; rw [u2]; omega) (by show M.2.2 (s + 7) i + j < s + 1 ∨ s + 7 ≤ M.2.2 (s + 7) i + j; rw [u2]; omega))
def SAg (A B : Stt) : Prop := Ag A.1 B.1 ∧ B.2.1 = A.2.1 ∧ ∀ i, i < A.2.1 → Ag (A.2.2 i) (B.2.2 i)
theorem l_copyS {T : Th} {s o : Nat} {M : Mm} {A : Stt} {C : Blk} {Q : Mm → Prop} (h5 : isX5 T s) (h6 : isX5 T o) (hm : ∀ k, k < 10 → isX2 T (s + 8 + 6 * k)) (hm' : ∀ k, k < 10 → isX2 T (o + 8 + 6 * k)) (hd : s + 68 ≤ o ∨ o + 68 ≤ s) (hL : StL M s) (hLo : StL M o) (hS : StC M o A)
    (hq : ∀ M' S', S'.1 = C → FrS s M M' → StL M' s → StC M' s S' → S'.2.1 = A.2.1 → (∀ i, i < A.2.1 → Ag (A.2.2 i) (S'.2.2 i)) → Q M') :
    ∀ (n i : Nat) (N : Mm) (H : Nat → Blk), i + n = A.2.1 → FrS s M N → N.2.2 = M.2.2 → GrC N (s + 1) C → N.1 s 2 = nI A.2.1 → (∀ k, k < i → GrC N (N.2.2 (s + 7) k) (H k) ∧ Ag (A.2.2 k) (H k)) → WP T mX5_copyFrom 21 [(0, .ref s), (1, .ref o), (2, .int (nI i))] [] N (qv Q) := by
  have hL' := hL
  obtain ⟨π, p1, p2⟩ := hL
  obtain ⟨ρ, r1, r2⟩ := hLo
  obtain ⟨s1, s2, s3, s4⟩ := hS
  intro n
  induction n with
  | zero =>
    intro i N H hi hf hr hC hk hH
    refine sg_X5_copyFrom_21 h5 h6 ?_
    rw [hk]
    refine ⟨fun _ => hq N (C, A.2.1, H) rfl hf (hL'.kept (by rw [hr])) ⟨hC, hk, s3, fun k hk => (hH k (by have : k < A.2.1 := hk; omega)).1⟩ rfl (fun k hk => (hH k (by omega)).2), fun z => absurd (nI_le (by omega) (by omega)) z⟩
  | succ n ih =>
    intro i N H hi hf hr hC hk hH
    refine sg_X5_copyFrom_21 h5 h6 ?_
    rw [hk, cl_nI (by omega), nI_1, hr]
    simp only [forall_eq]
    obtain ⟨q1, q2⟩ := p1 i (by omega)
    obtain ⟨u1, u2⟩ := r1 i (by omega)
    have hx : isX2 T (M.2.2 (s + 7) i) := by rw [q2]; exact hm _ q1
    have hy : isX2 T (M.2.2 (o + 7) i) := by rw [u2]; exact hm' _ u1
    have hv := vp_nI (i := i) (n := 10) (by omega) (by decide)
    refine ⟨fun z => absurd z (nI_ge (by omega) (by omega)), fun _ => ⟨fun z => absurd z (nI_ge (b := 10) (by omega) (by omega)), fun _ => ⟨hv, hx, hv, hy, hv, hx, hv, hy, ?_⟩⟩⟩
    have hB : GrC N (M.2.2 (o + 7) i) (A.2.2 i) := (s4 i (by omega)).kept (fun j hj => hf.1 _ (by rw [u2]; omega))
    refine c_copyM hx hy hB (by rw [q2, u2]; omega) (fun D c1 c2 c3 => ?_)
    have o1 : ∀ a, (a < s + 8 + 6 * π i ∨ s + 8 + 6 * π i + 6 ≤ a) → (wB N (M.2.2 (s + 7) i) 6 D).1 a = N.1 a := fun a ha => by rw [q2]; exact wB_out ha
    refine ih (i + 1) _ (fun k => if k = i then D else H k) (by omega) ⟨fun a ha => ?_, hf.2.1, hf.2.2.1, fun k hk => ?_⟩ hr ?_ ?_ (fun k hk => ?_)
    · rw [o1 a (by omega)]; exact hf.1 a ha
    · rw [o1 s (by omega)]; exact hf.2.2.2 k hk
    · exact hC.kept (fun j hj => o1 _ (by omega))
    · rw [o1 s (by omega)]; exact hk
    · show GrC _ (N.2.2 (s + 7) k) _ ∧ _
      rw [hr]
      by_cases e : k = i
      · subst e; simp only [if_true]; exact ⟨GrC.own, c1, c2, c3⟩
      · simp only [e, if_false]
        have h := hH k (by omega)
        rw [hr] at h
        obtain ⟨v1, v2⟩ := p1 k (by omega)
        have hne : π k ≠ π i := fun q => e (p2 k i (by omega) (by omega) q)
        exact ⟨h.1.kept (fun j hj => o1 _ (by rw [v2]; omega)), h.2⟩
theorem c_copyS {T : Th} {s o : Nat} {M : Mm} {A : Stt} {Q : Mm → Prop} (h5 : isX5 T s) (h6 : isX5 T o) (hm : ∀ k, k < 10 → isX2 T (s + 8 + 6 * k)) (hm' : ∀ k, k < 10 → isX2 T (o + 8 + 6 * k)) (hd : s + 68 ≤ o ∨ o + 68 ≤ s) (hL : StL M s) (hLo : StL M o) (hS : StC M o A)
    (hq : ∀ M' S', FrS s M M' → StL M' s → StC M' s S' → SAg A S' → Q M') : WPv T mX5_copyFrom [.ref s, .ref o] M Q := by
  refine WPM.of (by decide) rfl (Nat.le_of_ble_eq_true rfl) (sg_X5_copyFrom_0 h5 h6 (c_copyM h5.2.1 h6.2.1 hS.1 (by omega) (fun C c1 c2 c3 => ?_)))
  intro M2 e2
  have eo : (wB M (s + 1) 6 C).1 o = M.1 o := wB_out (by omega)
  rw [eo, hS.2.1] at e2
  have o1 : ∀ a, a ≠ s → (a < s + 1 ∨ s + 7 ≤ a) → M2.1 a = M.1 a := fun a ha hb => by
    rw [e2]; funext k; simp only [sI]; rw [if_neg (by omega), wB_out (by omega)]
  refine l_copyS (M := M) (C := C) h5 h6 hm hm' hd hL hLo hS (fun M' S' e hf hl hs h1 h2 => hq M' S' hf hl hs ⟨by rw [e]; exact ⟨c1, c2, c3⟩, h1, h2⟩) A.2.1 0 M2 (fun _ => C) (by omega) ⟨fun a ha => o1 a (by omega) (by omega), by rw [e2]; rfl, fun _ _ => by rw [e2]; rfl, fun k hk => ?_⟩ (by rw [e2]; rfl) ?_ ?_ (fun k hk => by omega)
  · rw [e2]; simp only [sI]; rw [if_neg (by omega), wB_out (by omega)]
  · rw [e2]; intro j hj
    have : (sI (wB M (s + 1) 6 C) s 2 (nI A.2.1)).1 (s + 1 + j) = (wB M (s + 1) 6 C).1 (s + 1 + j) := by funext k; simp only [sI]; rw [if_neg (by omega)]
    rw [this]; exact wB_in j hj
  · rw [e2]; simp [sI]
