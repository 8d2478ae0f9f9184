/-! THE REFERENCE's TOKENS -/
def kR (τ : Tok) : Int32 := if τ.1 = 0 then 3 else if τ.1 = 3 then 2 else if τ.1 = 1 then (if τ.2.2.1 = 0 then 4 else τ.2.2.1) else if τ.1 = 2 then (if τ.2.2.1 ≤ 99 then 1 else 4) else 4
def RTk (r : Nat → Int32) (τ : Tok) : Prop := r 18 = nI τ.2.2.2 ∧ r 19 = nI τ.2.1 ∧ r 20 = kR τ ∧ (∃ m, m ≤ 999 ∧ r 21 = nI m) ∧ (τ.1 = 2 → τ.2.2.1 ≤ 99 → r 21 = τ.2.2.1)
theorem byte_back : ∀ c, c < 256 → ((nI c).toInt8.toInt32 &&& 255) = nI c := by decide +kernel
def rvF (tb : Nat → Int32) (tn : Nat) : Nat → Nat → Int32 → Int32
  | 0, _, v => v
  | f + 1, a, v => if a < tn ∧ isDi (tb a) = true then rvF tb tn f (a + 1) (if v ≤ 99 then 10 * v + tb a - 48 else v) else v
theorem rv_dv {tb : Nat → Int32} {tn : Nat} : ∀ (f a m : Nat), m ≤ 999 → ∃ q, q ≤ 999 ∧ rvF tb tn f a (nI m) = nI q ∧ dvF tb tn f a (nI (min 100 m)) = nI (min 100 q)
  | 0, a, m, h => ⟨m, h, rfl, rfl⟩
  | f + 1, a, m, h => by
    simp only [rvF, dvF]
    by_cases hc : a < tn ∧ isDi (tb a) = true
    · rw [if_pos hc, if_pos hc]
      have hd := of_decide_eq_true hc.2
      obtain ⟨d, d1, d2⟩ : ∃ d, d ≤ 9 ∧ tb a = nI (48 + d) := by
        obtain ⟨e, e1, e2⟩ := nI_of2 (x := tb a) (M := 57) (n := 57) rfl (Int32.not_lt.mpr (Int32.le_trans (by decide) hd.1)) hd.2
        have : 48 ≤ e := by
          have q := hd.1
          rw [e2, show (48 : Int32) = nI 48 from rfl, nI_leI (by omega) (by omega)] at q
          exact q
        exact ⟨e - 48, by omega, by rw [e2]; congr 1; omega⟩
      by_cases h9 : m ≤ 99
      · have e1 : (if nI m ≤ 99 then (10 : Int32) * nI m + tb a - 48 else nI m) = nI (10 * m + d) := by
          rw [if_pos (show nI m ≤ 99 from nI_le (b := 99) h9 (by omega)), d2, show (10 : Int32) * nI m = nI (10 * m) from pk_mul 10 m, nI_add]
          rw [show (48 : Int32) = nI 48 from rfl, pk_sub (by omega)]
          congr 1
          omega
        have e2 : dvS (tb a) (nI (min 100 m)) = nI (min 100 (10 * m + d)) := by
          unfold dvS
          have e3 : nI (min 100 m) * 10 + tb a - 48 = nI (10 * m + d) := by
            rw [Nat.min_eq_right (by omega), d2, show nI m * 10 = nI (m * 10) from pk_mul m 10, nI_add, show (48 : Int32) = nI 48 from rfl, pk_sub (by omega)]
            congr 1
            omega
          rw [e3]
          by_cases h1 : 10 * m + d < 100
          · rw [if_pos (show nI (10 * m + d) < 100 from nI_lt (b := 100) h1 (by omega)), Nat.min_eq_right (by omega)]
          · rw [if_neg (show ¬ nI (10 * m + d) < 100 from nI_nlt (b := 100) (by omega) (by omega)), Nat.min_eq_left (by omega)]; rfl
        rw [e1, e2]
        exact rv_dv f (a + 1) (10 * m + d) (by omega)
      · have e1 : (if nI m ≤ 99 then (10 : Int32) * nI m + tb a - 48 else nI m) = nI m := if_neg (show ¬ nI m ≤ 99 from nI_ge (a := 99) (by omega) (by omega))
        have e2 : dvS (tb a) (nI (min 100 m)) = nI (min 100 m) := by
          unfold dvS
          have e3 : nI (min 100 m) * 10 + tb a - 48 = nI (1000 + d) := by
            rw [Nat.min_eq_left (by omega), d2, show nI 100 * 10 = nI 1000 from by decide, nI_add, show (48 : Int32) = nI 48 from rfl, pk_sub (by omega)]
            congr 1
            omega
          rw [e3, if_neg (show ¬ nI (1000 + d) < 100 from nI_nlt (b := 100) (by omega) (by omega)), Nat.min_eq_left (by omega)]; rfl
        rw [e1, e2]
        exact rv_dv f (a + 1) m h
    · rw [if_neg hc, if_neg hc]
      exact ⟨m, h, rfl, rfl⟩
section
variable {T : Th} {M : Mm} {y tn : Nat} {tb : Nat → Int32}
theorem r_here {a : Nat} {r : Nat → Int32} {Q : Int32 → Mm → Prop} (h7 : isX7 T y) (htn : tn ≤ 200) (ht : ∀ k, k < tn → M.1 (y + 1) k = (tb k).toInt8.toInt32) (hb : ∀ k, k < tn → 0 ≤ tb k ∧ tb k ≤ 255) (ha : a ≤ tn) (h2 : r 2 = nI tn) (h18 : r 18 = nI a) (hq : Q (if a < tn then tb a else -1) (pM M y r)) : WPi T mX7_here [.ref y] (pM M y r) Q := by
  refine WPM.of (by decide) rfl (Nat.le_of_ble_eq_true rfl) (sg_X7_here_0 h7 ?_)
  rw [pM_p, pM_o (by omega), h2, h18, cl_nI (by omega)]
  by_cases h : a < tn
  · rw [if_pos h] at hq
    obtain ⟨c, c1, c2⟩ := nI_of2 (x := tb a) (M := 255) (n := 255) rfl (Int32.not_lt.mpr (hb a h).1) (hb a h).2
    rw [ht a h, c2, byte_back c (by omega), ← c2]
    exact ⟨fun z => absurd z (nI_ge h (by omega)), fun _ => ⟨vp_nI (by omega) (by decide), hq⟩⟩
  · rw [if_neg h] at hq
    exact ⟨fun _ => hq, fun z => absurd (nI_le (by omega) (by omega)) z⟩
theorem l_next63 {s : Nat} {c : Int32} {Q : Mm → Prop} (h7 : isX7 T y) (htn : tn ≤ 200) (ht : ∀ k, k < tn → M.1 (y + 1) k = (tb k).toInt8.toInt32) (hb : ∀ k, k < tn → 0 ≤ tb k ∧ tb k ≤ 255) :
    ∀ (f a : Nat) (r : Nat → Int32), tn - a = f → s ≤ a → a ≤ tn → r 2 = nI tn → r 18 = nI a → r 19 = nI s → (∀ r', (∀ k, k ≠ 18 → k ≠ 20 → r' k = r k) → r' 18 = nI (rnF (fun k => isLe (tb k)) tn f a) → r' 20 = (if rnF (fun k => isLe (tb k)) tn f a = s + 1 then c else 4) → Q (pM M y r')) → WP T mX7_next 63 [(0, .ref y), (1, .int c)] [] (pM M y r) (qv Q) := by
  intro f
  have stop : ∀ (f a : Nat) (r : Nat → Int32), s ≤ a → a ≤ tn → r 18 = nI a → r 19 = nI s → rnF (fun k => isLe (tb k)) tn f a = a → (∀ r', (∀ k, k ≠ 18 → k ≠ 20 → r' k = r k) → r' 18 = nI (rnF (fun k => isLe (tb k)) tn f a) → r' 20 = (if rnF (fun k => isLe (tb k)) tn f a = s + 1 then c else 4) → Q (pM M y r')) → ((¬ (((pM M y r).1 y 18) - ((pM M y r).1 y 19)) = 1 → ∀ M5 : Mm, M5 = sI (pM M y r) y 20 4 → Q M5) ∧ ((((pM M y r).1 y 18) - ((pM M y r).1 y 19)) = 1 → ∀ M5 : Mm, M5 = sI (pM M y r) y 20 c → Q M5)) := by
    intro f a r h1 h2 h18 h19 e hq
    rw [e] at hq
    have hd : nI a - nI s = 1 ↔ a = s + 1 := by
      rw [pk_sub h1, show (1 : Int32) = nI 1 from rfl, nI_eq (by omega) (by omega)]; omega
    rw [pM_p, h18, h19, hd, pM_s, pM_s]
    simp only [forall_eq]
    refine ⟨fun z => hq _ (fun k _ hk => upd_nm _ _ hk) (by rw [upd_nm _ _ (by decide)]; exact h18) (by rw [upd_s, if_neg z]), fun z => hq _ (fun k _ hk => upd_nm _ _ hk) (by rw [upd_nm _ _ (by decide)]; exact h18) (by rw [upd_s, if_pos z])⟩
  induction f with
  | zero =>
    intro a r hf hs ha h2 h18 h19 hq
    refine sg_X7_next_63 h7 (r_here h7 htn ht hb ha h2 h18 ?_)
    rw [if_neg (show ¬ a < tn by omega)]
    refine r_in ?_
    rw [if_neg (by decide)]
    exact ⟨fun _ => stop 0 a r hs ha h18 h19 rfl hq, fun z => absurd rfl z⟩
  | succ f ih =>
    intro a r hf hs ha h2 h18 h19 hq
    refine sg_X7_next_63 h7 (r_here h7 htn ht hb ha h2 h18 ?_)
    rw [if_pos (show a < tn by omega)]
    refine r_in ?_
    by_cases hl : 97 ≤ tb a ∧ tb a ≤ 122
    · have hl' : isLe (tb a) = true := decide_eq_true hl
      rw [if_pos hl]
      refine ⟨fun z => absurd z (by decide), fun _ => ?_⟩
      have e : rnF (fun k => isLe (tb k)) tn (f + 1) a = rnF (fun k => isLe (tb k)) tn f (a + 1) := by simp only [rnF]; rw [if_pos ⟨by omega, hl'⟩]
      rw [e] at hq
      rw [pM_p, pM_s, h18, nI_1]
      simp only [forall_eq]
      refine ih (a + 1) _ (by omega) (by omega) (by omega) (by rw [upd_nm _ _ (by decide)]; exact h2) (upd_s _ _ _) (by rw [upd_nm _ _ (by decide)]; exact h19) (fun r' e1 e2 e3 => hq r' (fun k k1 k2 => ?_) e2 e3)
      rw [e1 k k1 k2, upd_nm _ _ k1]
    · have hl' : ¬ isLe (tb a) = true := fun h => hl (of_decide_eq_true h)
      rw [if_neg hl]
      have e : rnF (fun k => isLe (tb k)) tn (f + 1) a = a := by simp only [rnF]; rw [if_neg (fun q => hl' q.2)]
      exact ⟨fun _ => stop (f + 1) a r hs ha h18 h19 e hq, fun z => absurd rfl z⟩
theorem l_next126 {s : Nat} {c : Int32} {Q : Mm → Prop} (h7 : isX7 T y) (htn : tn ≤ 200) (ht : ∀ k, k < tn → M.1 (y + 1) k = (tb k).toInt8.toInt32) (hb : ∀ k, k < tn → 0 ≤ tb k ∧ tb k ≤ 255) :
    ∀ (f a : Nat) (r : Nat → Int32), tn - a = f → s ≤ a → a ≤ tn → r 2 = nI tn → r 18 = nI a → r 19 = nI s → (∀ r', (∀ k, k ≠ 18 → k ≠ 20 → k ≠ 21 → r' k = r k) → r' 18 = nI (rnF (fun k => isDi (tb k)) tn f a) → r' 21 = rvF tb tn f a (r 21) → r' 20 = (if 99 < rvF tb tn f a (r 21) then 4 else if ¬ c = 48 then 1 else if rnF (fun k => isDi (tb k)) tn f a ≤ s + 1 then 1 else 4) → Q (pM M y r')) → WP T mX7_next 126 [(0, .ref y), (1, .int c)] [] (pM M y r) (qv Q) := by
  intro f
  have stop : ∀ (f a : Nat) (r : Nat → Int32), s ≤ a → a ≤ tn → r 18 = nI a → r 19 = nI s → rnF (fun k => isDi (tb k)) tn f a = a → rvF tb tn f a (r 21) = r 21 → (∀ r', (∀ k, k ≠ 18 → k ≠ 20 → k ≠ 21 → r' k = r k) → r' 18 = nI (rnF (fun k => isDi (tb k)) tn f a) → r' 21 = rvF tb tn f a (r 21) → r' 20 = (if 99 < rvF tb tn f a (r 21) then 4 else if ¬ c = 48 then 1 else if rnF (fun k => isDi (tb k)) tn f a ≤ s + 1 then 1 else 4) → Q (pM M y r')) → ((99 < ((pM M y r).1 y 21) → ∀ M5 : Mm, M5 = sI (pM M y r) y 20 4 → Q M5) ∧ (¬ 99 < ((pM M y r).1 y 21) → (¬ c = 48 → ∀ M5 : Mm, M5 = sI (pM M y r) y 20 1 → Q M5) ∧ (c = 48 → ((((pM M y r).1 y 18) - ((pM M y r).1 y 19)) ≤ 1 → ∀ M5 : Mm, M5 = sI (pM M y r) y 20 1 → Q M5) ∧ (¬ (((pM M y r).1 y 18) - ((pM M y r).1 y 19)) ≤ 1 → ∀ M5 : Mm, M5 = sI (pM M y r) y 20 4 → Q M5)))) := by
    intro f a r h1 h2 h18 h19 e ev hq
    rw [e, ev] at hq
    have hd : nI a - nI s ≤ 1 ↔ a ≤ s + 1 := by
      rw [pk_sub h1, show (1 : Int32) = nI 1 from rfl, nI_leI (by omega) (by omega)]; omega
    rw [pM_p, h18, h19, hd]
    simp only [pM_s, forall_eq]
    have fin : ∀ v : Int32, v = (if 99 < r 21 then 4 else if ¬ c = 48 then 1 else if a ≤ s + 1 then 1 else 4) → Q (pM M y (upd r 20 v)) := fun v hv => hq _ (fun k _ hk _ => upd_nm _ _ hk) (by rw [upd_nm _ _ (by decide)]; exact h18) (upd_nm _ _ (by decide)) (by rw [upd_s]; exact hv)
    exact ⟨fun z => fin 4 (by rw [if_pos z]), fun z => ⟨fun z2 => fin 1 (by rw [if_neg z, if_pos z2]), fun z2 => ⟨fun z3 => fin 1 (by rw [if_neg z, if_neg (fun h => h z2), if_pos z3]), fun z3 => fin 4 (by rw [if_neg z, if_neg (fun h => h z2), if_neg z3])⟩⟩⟩
  induction f with
  | zero =>
    intro a r hf hs ha h2 h18 h19 hq
    refine sg_X7_next_126 h7 (r_here h7 htn ht hb ha h2 h18 ?_)
    rw [if_neg (show ¬ a < tn by omega)]
    refine r_in ?_
    rw [if_neg (by decide)]
    exact ⟨fun _ => stop 0 a r hs ha h18 h19 rfl rfl hq, fun z => absurd rfl z⟩
  | succ f ih =>
    intro a r hf hs ha h2 h18 h19 hq
    refine sg_X7_next_126 h7 (r_here h7 htn ht hb ha h2 h18 ?_)
    rw [if_pos (show a < tn by omega)]
    refine r_in ?_
    by_cases hl : 48 ≤ tb a ∧ tb a ≤ 57
    · have hl' : isDi (tb a) = true := decide_eq_true hl
      rw [if_pos hl]
      refine ⟨fun z => absurd z (by decide), fun _ => ?_⟩
      have e : rnF (fun k => isDi (tb k)) tn (f + 1) a = rnF (fun k => isDi (tb k)) tn f (a + 1) := by simp only [rnF]; rw [if_pos ⟨by omega, hl'⟩]
      have ev : rvF tb tn (f + 1) a (r 21) = rvF tb tn f (a + 1) (if r 21 ≤ 99 then 10 * r 21 + tb a - 48 else r 21) := by simp only [rvF]; rw [if_pos ⟨by omega, hl'⟩]
      rw [e, ev] at hq
      have go : ∀ v : Int32, v = (if r 21 ≤ 99 then 10 * r 21 + tb a - 48 else r 21) → ∀ N, N = pM M y (upd r 21 v) → ∀ N2, N2 = sI N y 18 (N.1 y 18 + 1) → WP T mX7_next 126 [(0, .ref y), (1, .int c)] [] N2 (qv Q) := by
        intro v hv N eN N2 eN2
        rw [eN2, eN, pM_p, pM_s, upd_nm _ _ (by decide), h18, nI_1]
        refine ih (a + 1) _ (by omega) (by omega) (by omega) (by rw [upd_nm _ _ (by decide), upd_nm _ _ (by decide)]; exact h2) (upd_s _ _ _) (by rw [upd_nm _ _ (by decide), upd_nm _ _ (by decide)]; exact h19) (fun r' e1 e2 e3 e4 => ?_)
        rw [upd_nm _ _ (by decide), upd_s, hv] at e3 e4
        exact hq r' (fun k k1 k2 k3 => by rw [e1 k k1 k2 k3, upd_nm _ _ k1, upd_nm _ _ k3]) e2 e3 e4
      rw [pM_p, pM_s]
      refine ⟨fun z => r_here h7 htn ht hb ha h2 h18 ?_, fun z => go _ (by rw [if_neg z])⟩
      rw [if_pos (by omega), pM_s]
      exact go _ (by rw [if_pos z])
    · have hl' : ¬ isDi (tb a) = true := fun h => hl (of_decide_eq_true h)
      rw [if_neg hl]
      have e : rnF (fun k => isDi (tb k)) tn (f + 1) a = a := by simp only [rnF]; rw [if_neg (fun q => hl' q.2)]
      have ev : rvF tb tn (f + 1) a (r 21) = r 21 := by simp only [rvF]; rw [if_neg (fun q => hl' q.2)]
      exact ⟨fun _ => stop (f + 1) a r hs ha h18 h19 e ev hq, fun z => absurd rfl z⟩
theorem l_next0 {Q : Mm → Prop} (h7 : isX7 T y) (htn : tn ≤ 200) (ht : ∀ k, k < tn → M.1 (y + 1) k = (tb k).toInt8.toInt32) (hb : ∀ k, k < tn → 0 ≤ tb k ∧ tb k ≤ 255) :
    ∀ (f a : Nat) (r : Nat → Int32), tn - a = f → a ≤ tn → r 2 = nI tn → r 18 = nI a → (∀ r', (∀ k, k ≠ 18 → k ≠ 19 → k ≠ 20 → k ≠ 21 → r' k = r k) → RTk r' (tkO tb tn a) → Q (pM M y r')) → WP T mX7_next 0 [(0, .ref y)] [] (pM M y r) (qv Q) := by
  intro f
  have tok : ∀ (s : Nat) (r : Nat → Int32), s ≤ tn → r 2 = nI tn → r 18 = nI s → (s < tn → ¬ tb s = 32) → (∀ r', (∀ k, k ≠ 18 → k ≠ 19 → k ≠ 20 → k ≠ 21 → r' k = r k) → RTk r' (tkS tb tn s) → Q (pM M y r')) → WP T mX7_next 0 [(0, .ref y)] [] (pM M y r) (qv Q) := by
    intro s r hs h2 h18 h32 hq
    refine sg_X7_next_0 h7 (r_here h7 htn ht hb hs h2 h18 ?_)
    have hn32 : ¬ (if s < tn then tb s else -1) = 32 := by
      by_cases h : s < tn
      · rw [if_pos h]; exact h32 h
      · rw [if_neg h]; decide
    refine ⟨fun _ => ?_, fun z => absurd z hn32⟩
    rw [pM_p, pM_s, h18]
    simp only [forall_eq]
    rw [pM_s]
    generalize hr2 : upd (upd r 19 (nI s)) 21 0 = r2
    have g2 : r2 2 = nI tn := by rw [← hr2, upd_nm _ _ (by decide), upd_nm _ _ (by decide)]; exact h2
    have g18 : r2 18 = nI s := by rw [← hr2, upd_nm _ _ (by decide), upd_nm _ _ (by decide)]; exact h18
    have g19 : r2 19 = nI s := by rw [← hr2, upd_nm _ _ (by decide), upd_s]
    have g21 : r2 21 = nI 0 := by rw [← hr2, upd_s]; rfl
    have gk : ∀ k, k ≠ 19 → k ≠ 21 → r2 k = r k := fun k k1 k2 => by rw [← hr2, upd_nm _ _ k2, upd_nm _ _ k1]
    refine r_here h7 htn ht hb hs g2 g18 ?_
    unfold tkS at hq
    by_cases hlt : s < tn
    · rw [if_neg (by omega)] at hq
      rw [if_pos hlt]
      refine ⟨fun _ => r_in ?_, fun z => absurd (hb s hlt).1 z⟩
      by_cases hl : 97 ≤ tb s ∧ tb s ≤ 122
      · have hl' : isLe (tb s) = true := decide_eq_true hl
        rw [if_pos hl'] at hq
        rw [if_pos hl]
        refine ⟨fun z => absurd z (by decide), fun _ => ?_⟩
        refine l_next63 h7 htn ht hb (tn - s) s r2 rfl (Nat.le_refl _) hs g2 g18 g19 (fun r' e1 e2 e3 => hq r' (fun k k1 k2 k3 k4 => by rw [e1 k k1 k3, gk k k2 k4]) ?_)
        have er : rnF (fun k => isLe (tb k)) tn (tn - s) s = rnF (fun k => isLe (tb k)) tn (tn - (s + 1)) (s + 1) := by
          rw [show tn - s = tn - (s + 1) + 1 by omega]; simp only [rnF]; rw [if_pos ⟨hlt, hl'⟩]
        rw [er] at e2 e3
        refine ⟨e2, by rw [e1 19 (by decide) (by decide)]; exact g19, ?_, ⟨0, by omega, by rw [e1 21 (by decide) (by decide)]; exact g21⟩, fun z => absurd z (by show ¬ (1 : Int32) = 2; decide)⟩
        rw [e3]
        have hne : ¬ tb s = 0 := fun h => by have := hl.1; rw [h] at this; exact absurd this (by decide)
        unfold kR
        by_cases hrn : rnF (fun k => isLe (tb k)) tn (tn - (s + 1)) (s + 1) = s + 1
        · simp [hrn, hne]
        · simp [hrn]
      · have hl' : ¬ isLe (tb s) = true := fun h => hl (of_decide_eq_true h)
        rw [if_neg hl'] at hq
        rw [if_neg hl]
        refine ⟨fun _ => r_in ?_, fun z => absurd rfl z⟩
        by_cases hd : 48 ≤ tb s ∧ tb s ≤ 57
        · have hd' : isDi (tb s) = true := decide_eq_true hd
          rw [if_pos hd'] at hq
          rw [if_pos hd]
          refine ⟨fun z => absurd z (by decide), fun _ => ?_⟩
          refine l_next126 h7 htn ht hb (tn - s) s r2 rfl (Nat.le_refl _) hs g2 g18 g19 (fun r' e1 e2 e3 e4 => hq r' (fun k k1 k2 k3 k4 => by rw [e1 k k1 k3 k4, gk k k2 k4]) ?_)
          obtain ⟨q, q1, q2, q3⟩ := rv_dv (tb := tb) (tn := tn) (tn - s) s 0 (by omega)
          rw [g21, q2] at e3 e4
          rw [show nI (min 100 0) = 0 from rfl] at q3
          refine ⟨e2, by rw [e1 19 (by decide) (by decide) (by decide)]; exact g19, ?_, ⟨q, q1, e3⟩, fun _ z => ?_⟩
          · rw [e4]
            have e1' : rnF (fun k => isDi (tb k)) tn (tn - s) s ≤ s + 1 ↔ ¬ (s + 1 < tn ∧ isDi (tb (s + 1)) = true) := by
              rw [show tn - s = tn - (s + 1) + 1 by omega]
              simp only [rnF]
              rw [if_pos ⟨hlt, hd'⟩]
              by_cases h2 : s + 1 < tn
              · rw [show tn - (s + 1) = tn - (s + 1 + 1) + 1 by omega]
                simp only [rnF]
                by_cases h3 : isDi (tb (s + 1)) = true
                · rw [if_pos ⟨h2, h3⟩]
                  have := rn_ge (p := fun k => isDi (tb k)) (tn := tn) (tn - (s + 1 + 1)) (s + 1 + 1)
                  simp only [h2, h3, and_self, not_true_eq_false, iff_false]
                  omega
                · rw [if_neg (fun q => h3 q.2)]
                  simp [h3]
              · rw [show tn - (s + 1) = 0 by omega]
                simp [rnF, h2]
            have c99 : 99 < nI q ↔ 99 < q := nI_ltI (a := 99) (by omega) (by omega)
            have m99 : nI (min 100 q) ≤ 99 ↔ q ≤ 99 := by
              rw [show (99 : Int32) = nI 99 from rfl, nI_leI (by omega) (by omega)]; omega
            unfold kR
            show _ = (if (if tb s = 48 ∧ s + 1 < tn ∧ isDi (tb (s + 1)) = true then (4 : Int32) else 2) = 0 then (3 : Int32) else if (if tb s = 48 ∧ s + 1 < tn ∧ isDi (tb (s + 1)) = true then (4 : Int32) else 2) = 3 then 2 else if (if tb s = 48 ∧ s + 1 < tn ∧ isDi (tb (s + 1)) = true then (4 : Int32) else 2) = 1 then _ else if (if tb s = 48 ∧ s + 1 < tn ∧ isDi (tb (s + 1)) = true then (4 : Int32) else 2) = 2 then (if dvF tb tn (tn - s) s 0 ≤ 99 then 1 else 4) else 4)
            rw [q3]
            simp only [e1', c99, m99]
            by_cases z1 : tb s = 48
            · by_cases z2 : s + 1 < tn ∧ isDi (tb (s + 1)) = true
              · simp only [z1, z2.1, z2.2, and_self, if_true, not_true_eq_false, if_false]
                split <;> rfl
              · simp only [z1, z2, and_false, if_false, not_true_eq_false, not_false_eq_true, if_true]
                by_cases z3 : q ≤ 99
                · simp [z3, show ¬ 99 < q by omega]
                · simp [z3, show 99 < q by omega]
            · simp only [z1, false_and, if_false, not_false_eq_true, if_true]
              by_cases z3 : q ≤ 99
              · simp [z3, show ¬ 99 < q by omega]
              · simp [z3, show 99 < q by omega]
          · have z : dvF tb tn (tn - s) s 0 ≤ 99 := z
            show r' 21 = dvF tb tn (tn - s) s 0
            rw [q3] at z ⊢
            rw [show (99 : Int32) = nI 99 from rfl, nI_leI (by omega) (by omega)] at z
            rw [e3, Nat.min_eq_right (by omega)]
        · have hd' : ¬ isDi (tb s) = true := fun h => hd (of_decide_eq_true h)
          rw [if_neg hd'] at hq
          rw [if_neg hd]
          refine ⟨fun _ => ?_, fun z => absurd rfl z⟩
          rw [pM_p, pM_s, g18, nI_1]
          rw [pM_s, pM_s]
          have fin : ∀ v : Int32, v = (if tb s = 59 then 2 else 4) → Q (pM M y (upd (upd r2 18 (nI (s + 1))) 20 v)) := fun v hv => by
            refine hq _ (fun k k1 k2 k3 k4 => by rw [upd_nm _ _ k3, upd_nm _ _ k1, gk k k2 k4]) ⟨by rw [upd_nm _ _ (by decide), upd_s], by rw [upd_nm _ _ (by decide), upd_nm _ _ (by decide)]; exact g19, ?_, ⟨0, by omega, by rw [upd_nm _ _ (by decide), upd_nm _ _ (by decide)]; exact g21⟩, fun z => ?_⟩
            · rw [upd_s, hv]
              unfold kR
              by_cases z : tb s = 59
              · simp [z]
              · simp [z]
            · have z : (if tb s = 59 then (3 : Int32) else 4) = 2 := z
              by_cases z2 : tb s = 59
              · rw [if_pos z2] at z; exact absurd z (by decide)
              · rw [if_neg z2] at z; exact absurd z (by decide)
          exact ⟨fun z => fin 4 (by rw [if_neg z]), fun z => fin 2 (by rw [if_pos z])⟩
    · rw [if_pos (by omega)] at hq
      rw [if_neg hlt]
      refine ⟨fun z => absurd z (by decide), fun _ => ?_⟩
      rw [pM_s]
      exact hq _ (fun k k1 k2 k3 k4 => by rw [upd_nm _ _ k3, gk k k2 k4]) ⟨by rw [upd_nm _ _ (by decide)]; exact g18, by rw [upd_nm _ _ (by decide)]; exact g19, upd_s _ _ _, ⟨0, by omega, by rw [upd_nm _ _ (by decide)]; exact g21⟩, fun z => absurd z (by show ¬ (0 : Int32) = 2; decide)⟩
  induction f with
  | zero =>
    intro a r hf ha h2 h18 hq
    have e : sk tb tn a = a := by unfold sk; rw [hf]; rfl
    unfold tkO at hq
    rw [e] at hq
    exact tok a r ha h2 h18 (fun h => by omega) hq
  | succ f ih =>
    intro a r hf ha h2 h18 hq
    by_cases z : tb a = 32
    · refine sg_X7_next_0 h7 (r_here h7 htn ht hb ha h2 h18 ?_)
      rw [if_pos (by omega), z]
      refine ⟨fun q => absurd rfl q, fun _ => ?_⟩
      rw [pM_p, pM_s, h18, nI_1]
      simp only [forall_eq]
      have e : sk tb tn a = sk tb tn (a + 1) := by
        unfold sk; rw [hf]; simp only [rnF]
        rw [if_pos ⟨by omega, by simp [z]⟩, show tn - (a + 1) = f by omega]
      refine ih (a + 1) _ (by omega) (by omega) (by rw [upd_nm _ _ (by decide)]; exact h2) (upd_s _ _ _) (fun r' e1 e2 => hq r' (fun k k1 k2 k3 k4 => by rw [e1 k k1 k2 k3 k4, upd_nm _ _ k1]) ?_)
      unfold tkO at e2 ⊢
      rw [e]; exact e2
    · have e : sk tb tn a = a := by
        unfold sk; rw [hf]; simp only [rnF]
        rw [if_neg (by simp [z])]
      unfold tkO at hq
      rw [e] at hq
      exact tok a r ha h2 h18 (fun _ => z) hq
theorem r_next {Q : Mm → Prop} {a : Nat} {r : Nat → Int32} (h7 : isX7 T y) (htn : tn ≤ 200) (ht : ∀ k, k < tn → M.1 (y + 1) k = (tb k).toInt8.toInt32) (hb : ∀ k, k < tn → 0 ≤ tb k ∧ tb k ≤ 255) (ha : a ≤ tn) (h2 : r 2 = nI tn) (h18 : r 18 = nI a) (hq : ∀ r', (∀ k, k ≠ 18 → k ≠ 19 → k ≠ 20 → k ≠ 21 → r' k = r k) → RTk r' (tkO tb tn a) → Q (pM M y r')) : WPv T mX7_next [.ref y] (pM M y r) Q :=
  WPM.of (by decide) rfl (Nat.le_of_ble_eq_true rfl) (l_next0 h7 htn ht hb (tn - a) a r rfl ha h2 h18 hq)
end
