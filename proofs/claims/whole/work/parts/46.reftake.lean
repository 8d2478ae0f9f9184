/-! THE REFERENCE TAKES what was told -/
def TkP (y m : Nat) (A B : Nat → Nat) (M M' : Mm) : Prop :=
  (∀ c, 2 ≤ c → c ≤ 8 → M'.1 (y + c) 0 = M.1 (y + c) 1) ∧ (∀ p, p < 12 → M'.1 (y + 9) p = M.1 (y + 9) (12 + p)) ∧ (∀ c, 10 ≤ c → c ≤ 13 → ∀ w, w < 5 → M'.1 (y + c) w = M.1 (y + c) (5 + w)) ∧ (∀ w, 5 ≤ w → M'.1 (y + 10) w = M.1 (y + 10) w) ∧ (∀ w, w < 5 → M'.1 (y + 16) w = jr A B m 5 (fun w => if w < 5 then M.1 (y + 11) (5 + w) else M.1 (y + 16) w) w) ∧ (∀ a, (a < y + 2 ∨ y + 17 ≤ a) → M'.1 a = M.1 a) ∧ M'.2 = M.2
section
variable {T : Th} {M : Mm} {y m : Nat} {A B : Nat → Nat} {Q : Mm → Prop}
theorem pr_upd {q : Nat → Int32} {i : Nat} : upd (upd q (A i) (mx2 (q (A i)) (q (B i)))) (B i) (mx2 (q (A i)) (q (B i))) = prF A B q i := by
  funext w; simp only [upd, prF]
theorem l_take203 {rd : Nat} (h7 : isX7 T y) (hm : m ≤ 4) (hrd : rd < 5) (h8 : M.1 (y + 8) 0 = nI m) (hp : ∀ i, i < m → M.1 (y + 14) (4 + i) = nI (A i) ∧ M.1 (y + 15) (4 + i) = nI (B i) ∧ A i < 5 ∧ B i < 5) :
    ∀ (n i : Nat) (q : Nat → Int32), i + n = m → WP T mX7_take 196 [(0, .ref y), (1, .int (nI (rd + 1)))] [] (pM M (y + 16) (foldF (prF A B) i n q)) (qv Q) → WP T mX7_take 203 [(0, .ref y), (1, .int (nI rd)), (2, .int (nI i))] [] (pM M (y + 16) q) (qv Q) := by
  intro n
  induction n with
  | zero =>
    intro i q hi hq
    simp only [foldF] at hq
    refine sg_X7_take_203 h7 ?_
    rw [pM_o (by omega), h8, nI_1]
    simp only [forall_eq]
    exact ⟨fun _ => hq, fun z => absurd (nI_le (by omega) (by omega)) z⟩
  | succ n ih =>
    intro i q hi hq
    simp only [foldF] at hq
    obtain ⟨p1, p2, p3, p4⟩ := hp i (by omega)
    have e4 : (4 : Int32) + nI i = nI (4 + i) := nI_add 4 i
    refine sg_X7_take_203 h7 ?_
    rw [pM_o (by omega), pM_o (by omega), pM_o (by omega), pM_p, h8, e4, cl_nI (by omega), p1, p2]
    simp only [forall_eq]
    rw [cl_nI (by omega), cl_nI (by omega)]
    have v8 : vp_in (nI (4 + i)) 8 := vp_nI (by omega) (by decide)
    have vA : vp_in (nI (A i)) 5 := vp_nI p3 (by decide)
    have vB : vp_in (nI (B i)) 5 := vp_nI p4 (by decide)
    have nx : ∀ s0 : Int32, s0 = mx2 (q (A i)) (q (B i)) → WP T mX7_take 264 [(0, .ref y), (1, .int (nI rd)), (2, .int (nI i)), (3, .int (nI (A i))), (4, .int (nI (B i)))] [.int s0] (pM M (y + 16) q) (qv Q) := by
      intro s0 hs
      refine sg_X7_take_264 h7 ⟨vA, ?_⟩
      rw [cl_nI (by omega), cl_nI (by omega), pM_s, nI_1]
      simp only [forall_eq]
      rw [pM_s, hs, pr_upd]
      exact ⟨vB, ih (i + 1) _ (by omega) hq⟩
    refine ⟨fun z => absurd z (nI_ge (by omega) (by omega)), fun _ => ⟨v8, v8, vA, vB, fun z => ⟨vB, nx _ ?_⟩, fun z => ⟨vA, nx _ ?_⟩⟩⟩
    · unfold mx2; grind
    · unfold mx2; grind
theorem l_take196 (h7 : isX7 T y) (hm : m ≤ 4) (h8 : M.1 (y + 8) 0 = nI m) (hp : ∀ i, i < m → M.1 (y + 14) (4 + i) = nI (A i) ∧ M.1 (y + 15) (4 + i) = nI (B i) ∧ A i < 5 ∧ B i < 5) :
    ∀ (n i : Nat) (q : Nat → Int32), i + n = 5 → Q (pM M (y + 16) (jr A B m n q)) → WP T mX7_take 196 [(0, .ref y), (1, .int (nI i))] [] (pM M (y + 16) q) (qv Q) := by
  intro n
  induction n with
  | zero =>
    intro i q hi hq
    exact sg_X7_take_196 h7 ⟨fun _ => hq, fun z => absurd (nI_le (a := 5) (by omega) (by omega)) z⟩
  | succ n ih =>
    intro i q hi hq
    refine sg_X7_take_196 h7 ⟨fun z => absurd z (nI_ge (b := 5) (by omega) (by omega)), fun _ => ?_⟩
    exact l_take203 h7 hm (by omega) h8 hp m 0 q (by omega) (ih (i + 1) _ (by omega) hq)
/-- five arrays are taken up to w -/
def T5 (y : Nat) (M N : Mm) (w : Nat) : Prop := (∀ c, 10 ≤ c → c ≤ 13 → ∀ k, N.1 (y + c) k = if k < w then M.1 (y + c) (5 + k) else M.1 (y + c) k) ∧ (∀ k, N.1 (y + 16) k = if k < w then M.1 (y + 11) (5 + k) else M.1 (y + 16) k) ∧ (∀ a, (a < y + 10 ∨ y + 14 ≤ a) → a ≠ y + 16 → N.1 a = M.1 a) ∧ N.2 = M.2
theorem l_take115 (h7 : isX7 T y) (hq : ∀ N, T5 y M N 5 → WP T mX7_take 196 [(0, .ref y), (1, .int 0)] [] N (qv Q)) :
    ∀ (n w : Nat) (N : Mm), w + n = 5 → T5 y M N w → WP T mX7_take 115 [(0, .ref y), (1, .int (nI w))] [] N (qv Q) := by
  intro n
  induction n with
  | zero =>
    intro w N hw ht
    rw [show w = 5 by omega] at ht
    exact sg_X7_take_115 h7 ⟨fun _ => hq N ht, fun z => absurd (nI_le (a := 5) (by omega) (by omega)) z⟩
  | succ n ih =>
    intro w N hw ht
    obtain ⟨t1, t2, t3, t4⟩ := ht
    refine sg_X7_take_115 h7 ⟨fun z => absurd z (nI_ge (b := 5) (by omega) (by omega)), fun _ => ?_⟩
    have e5 : (5 : Int32) + nI w = nI (5 + w) := nI_add 5 w
    rw [e5, cl_nI (by omega), cl_nI (by omega), nI_1]
    simp only [forall_eq]
    have va : vp_in (nI (5 + w)) 10 := vp_nI (by omega) (by decide)
    have vb : vp_in (nI w) 10 := vp_nI (by omega) (by decide)
    have vc : vp_in (nI w) 5 := vp_nI (by omega) (by decide)
    refine ⟨va, vb, va, vb, va, vb, va, vb, vb, vc, ?_⟩
    have r : ∀ c, 10 ≤ c → c ≤ 13 → N.1 (y + c) (5 + w) = M.1 (y + c) (5 + w) := fun c h1 h2 => by rw [t1 c h1 h2, if_neg (by omega)]
    have g1 : (sI N (y + 10) w (N.1 (y + 10) (5 + w))).1 (y + 11) (5 + w) = M.1 (y + 11) (5 + w) := by rw [← r 11 (by omega) (by omega)]; simp only [sI]; rw [if_neg (by omega)]
    rw [g1, r 10 (by omega) (by omega)]
    have g2 : (sI (sI N (y + 10) w (M.1 (y + 10) (5 + w))) (y + 11) w (M.1 (y + 11) (5 + w))).1 (y + 12) (5 + w) = M.1 (y + 12) (5 + w) := by rw [← r 12 (by omega) (by omega)]; simp only [sI]; rw [if_neg (by omega), if_neg (by omega)]
    rw [g2]
    have g3 : (sI (sI (sI N (y + 10) w (M.1 (y + 10) (5 + w))) (y + 11) w (M.1 (y + 11) (5 + w))) (y + 12) w (M.1 (y + 12) (5 + w))).1 (y + 13) (5 + w) = M.1 (y + 13) (5 + w) := by rw [← r 13 (by omega) (by omega)]; simp only [sI]; rw [if_neg (by omega), if_neg (by omega), if_neg (by omega)]
    rw [g3]
    have g4 : (sI (sI (sI (sI N (y + 10) w (M.1 (y + 10) (5 + w))) (y + 11) w (M.1 (y + 11) (5 + w))) (y + 12) w (M.1 (y + 12) (5 + w))) (y + 13) w (M.1 (y + 13) (5 + w))).1 (y + 11) w = M.1 (y + 11) (5 + w) := by simp [sI]
    rw [g4]
    refine ih (w + 1) _ (by omega) ⟨fun c c1 c2 k => ?_, fun k => ?_, fun a a1 a2 => ?_, t4⟩
    · have hk := t1 c c1 c2 k
      by_cases e : k = w
      · subst e
        rw [if_pos (by omega)]
        have : c = 10 ∨ c = 11 ∨ c = 12 ∨ c = 13 := by omega
        rcases this with e | e | e | e <;> subst e <;> simp [sI]
      · simp only [sI]
        rw [if_neg (by omega), if_neg (by omega), if_neg (by omega), if_neg (by omega), if_neg (by omega), hk]
        by_cases q : k < w
        · rw [if_pos q, if_pos (by omega)]
        · rw [if_neg q, if_neg (by omega)]
    · have hk := t2 k
      by_cases e : k = w
      · subst e; rw [if_pos (by omega)]; simp [sI]
      · simp only [sI]
        rw [if_neg (by omega), if_neg (by omega), if_neg (by omega), if_neg (by omega), if_neg (by omega), hk]
        by_cases q : k < w
        · rw [if_pos q, if_pos (by omega)]
        · rw [if_neg q, if_neg (by omega)]
    · rw [← t3 a a1 a2]; funext k; simp only [sI]
      rw [if_neg (by omega), if_neg (by omega), if_neg (by omega), if_neg (by omega), if_neg (by omega)]
def T12 (y : Nat) (M N : Mm) (p : Nat) : Prop := (∀ k, N.1 (y + 9) k = if k < p then M.1 (y + 9) (12 + k) else M.1 (y + 9) k) ∧ (∀ a, a ≠ y + 9 → N.1 a = M.1 a) ∧ N.2 = M.2
theorem l_take86 (h7 : isX7 T y) (hq : ∀ N, T12 y M N 12 → WP T mX7_take 115 [(0, .ref y), (1, .int 0)] [] N (qv Q)) :
    ∀ (n p : Nat) (N : Mm), p + n = 12 → T12 y M N p → WP T mX7_take 86 [(0, .ref y), (1, .int (nI p))] [] N (qv Q) := by
  intro n
  induction n with
  | zero =>
    intro p N hp ht
    rw [show p = 12 by omega] at ht
    exact sg_X7_take_86 h7 ⟨fun _ => hq N ht, fun z => absurd (nI_le (a := 12) (by omega) (by omega)) z⟩
  | succ n ih =>
    intro p N hp ht
    obtain ⟨t1, t2, t3⟩ := ht
    refine sg_X7_take_86 h7 ⟨fun z => absurd z (nI_ge (b := 12) (by omega) (by omega)), fun _ => ?_⟩
    have e12 : (12 : Int32) + nI p = nI (12 + p) := nI_add 12 p
    rw [e12, cl_nI (by omega), cl_nI (by omega), nI_1, t1 (12 + p), if_neg (by omega)]
    simp only [forall_eq]
    refine ⟨vp_nI (by omega) (by decide), vp_nI (by omega) (by decide), ih (p + 1) _ (by omega) ⟨fun k => ?_, fun a ha => ?_, t3⟩⟩
    · simp only [sI]
      by_cases e : k = p
      · rw [if_pos ⟨by trivial, e⟩, if_pos (by omega), e]
      · rw [if_neg (by omega), t1 k]
        by_cases q : k < p
        · rw [if_pos q, if_pos (by omega)]
        · rw [if_neg q, if_neg (by omega)]
    · rw [← t2 a ha]; funext k; simp only [sI]; rw [if_neg (by omega)]
theorem r_take (h7 : isX7 T y) (hm : m ≤ 4) (h8 : M.1 (y + 8) 1 = nI m) (hp : ∀ i, i < m → M.1 (y + 14) (4 + i) = nI (A i) ∧ M.1 (y + 15) (4 + i) = nI (B i) ∧ A i < 5 ∧ B i < 5) (hq : ∀ M', TkP y m A B M M' → Q M') : WPv T mX7_take [.ref y] M Q := by
  refine WPM.of (by decide) rfl (Nat.le_of_ble_eq_true rfl) (sg_X7_take_0 h7 ?_)
  intro M1 e1 M2 e2 M3 e3 M4 e4 M5 e5 M6 e6 M7 e7
  have s7 : ∀ c k, M7.1 (y + c) k = if 2 ≤ c ∧ c ≤ 8 ∧ k = 0 then M.1 (y + c) 1 else M.1 (y + c) k := fun c k => by
    rw [e7, e6, e5, e4, e3, e2, e1]
    simp only [sI]
    by_cases h : 2 ≤ c ∧ c ≤ 8 ∧ k = 0
    · rw [if_pos h]
      obtain ⟨h1, h2, h3⟩ := h
      have : c = 2 ∨ c = 3 ∨ c = 4 ∨ c = 5 ∨ c = 6 ∨ c = 7 ∨ c = 8 := by omega
      rcases this with e | e | e | e | e | e | e <;> subst e <;> simp [h3]
    · rw [if_neg h]
      rw [if_neg (by omega), if_neg (by omega), if_neg (by omega), if_neg (by omega), if_neg (by omega), if_neg (by omega), if_neg (by omega)]
  have o7 : ∀ a, (a < y + 2 ∨ y + 9 ≤ a) → M7.1 a = M.1 a := fun a ha => by
    rw [e7, e6, e5, e4, e3, e2, e1]; funext k; simp only [sI]
    rw [if_neg (by omega), if_neg (by omega), if_neg (by omega), if_neg (by omega), if_neg (by omega), if_neg (by omega), if_neg (by omega)]
  have o2 : M7.2 = M.2 := by rw [e7, e6, e5, e4, e3, e2, e1]; rfl
  refine l_take86 (M := M7) h7 (fun N8 t8 => ?_) 12 0 M7 (by omega) ⟨fun k => by rw [if_neg (by omega)], fun _ _ => rfl, rfl⟩
  refine l_take115 (M := N8) h7 (fun N9 t9 => ?_) 5 0 N8 (by omega) ⟨fun c _ _ k => by rw [if_neg (by omega)], fun k => by rw [if_neg (by omega)], fun _ _ _ => rfl, rfl⟩
  obtain ⟨u1, u2, u3⟩ := t8
  obtain ⟨v1, v2, v3, v4⟩ := t9
  have k8 : N9.1 (y + 8) 0 = nI m := by rw [v3 _ (by omega) (by omega), u2 _ (by omega), s7 8 0, if_pos (by omega)]; exact h8
  have hp9 : ∀ i, i < m → N9.1 (y + 14) (4 + i) = nI (A i) ∧ N9.1 (y + 15) (4 + i) = nI (B i) ∧ A i < 5 ∧ B i < 5 := fun i hi => by
    rw [v3 _ (by omega) (by omega), v3 _ (by omega) (by omega), u2 _ (by omega), u2 _ (by omega), o7 _ (by omega), o7 _ (by omega)]; exact hp i hi
  have hl := l_take196 (M := N9) (A := A) (B := B) (Q := Q) h7 hm k8 hp9 5 0 (N9.1 (y + 16)) (by omega)
  rw [pM_self] at hl
  refine hl (hq _ ⟨fun c c1 c2 => ?_, fun p hp => ?_, fun c c1 c2 w hw => ?_, fun w hw => ?_, fun w hw => ?_, fun a ha => ?_, ?_⟩)
  · rw [pM_o (by omega), v3 _ (by omega) (by omega), u2 _ (by omega), s7 c 0, if_pos ⟨c1, c2, rfl⟩]
  · rw [pM_o (by omega), v3 _ (by omega) (by omega), u1 p, if_pos hp, o7 _ (by omega)]
  · rw [pM_o (by omega), v1 c c1 c2 w, if_pos hw, u2 _ (by omega), o7 _ (by omega)]
  · rw [pM_o (by omega), v1 10 (by omega) (by omega) w, if_neg (by omega), u2 _ (by omega), o7 _ (by omega)]
  · rw [pM_p]
    refine congrFun (congrArg (jr A B m 5) ?_) w
    funext k
    rw [v2 k, u2 _ (by omega), u2 _ (by omega), o7 _ (by omega), o7 _ (by omega)]
  · rw [pM_o (by omega), v3 _ (by omega) (by omega), u2 _ (by omega), o7 _ (by omega)]
  · show N9.2 = M.2
    rw [v4, u3, o2]
end
