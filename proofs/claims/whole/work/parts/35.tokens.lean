/-! THE TEXT's TOKENS: kind (0 end, 1 letters, 2 number, 3 stop, 4 wrong), first place, value, place behind -/
abbrev Tok : Type := Int32 × Nat × Int32 × Nat
def rnF (p : Nat → Bool) (tn : Nat) : Nat → Nat → Nat
  | 0, a => a
  | f + 1, a => if a < tn ∧ p a = true then rnF p tn f (a + 1) else a
def isLe (c : Int32) : Bool := decide (97 ≤ c ∧ c ≤ 122)
def isDi (c : Int32) : Bool := decide (48 ≤ c ∧ c ≤ 57)
def dvS (c v : Int32) : Int32 := if v * 10 + c - 48 < 100 then v * 10 + c - 48 else 100
def dvF (tb : Nat → Int32) (tn : Nat) : Nat → Nat → Int32 → Int32
  | 0, _, v => v
  | f + 1, a, v => if a < tn ∧ isDi (tb a) = true then dvF tb tn f (a + 1) (dvS (tb a) v) else v
def sk (tb : Nat → Int32) (tn a : Nat) : Nat := rnF (fun k => decide (tb k = 32)) tn (tn - a) a
def tkS (tb : Nat → Int32) (tn s : Nat) : Tok :=
  if tn ≤ s then (0, s, 0, s)
  else if isLe (tb s) then (1, s, if rnF (fun k => isLe (tb k)) tn (tn - (s + 1)) (s + 1) = s + 1 then tb s else 0, rnF (fun k => isLe (tb k)) tn (tn - (s + 1)) (s + 1))
  else if isDi (tb s) then (if tb s = 48 ∧ s + 1 < tn ∧ isDi (tb (s + 1)) = true then 4 else 2, s, dvF tb tn (tn - s) s 0, rnF (fun k => isDi (tb k)) tn (tn - s) s)
  else (if tb s = 59 then 3 else 4, s, 0, s + 1)
def tkO (tb : Nat → Int32) (tn a : Nat) : Tok := tkS tb tn (sk tb tn a)
theorem rn_ge {p : Nat → Bool} {tn : Nat} : ∀ (f a : Nat), a ≤ rnF p tn f a
  | 0, a => Nat.le_refl _
  | f + 1, a => by
    simp only [rnF]
    split
    · have := rn_ge (p := p) (tn := tn) f (a + 1); omega
    · exact Nat.le_refl _
theorem rn_le {p : Nat → Bool} {tn : Nat} : ∀ (f a : Nat), a ≤ tn → rnF p tn f a ≤ tn
  | 0, a, h => h
  | f + 1, a, h => by
    simp only [rnF]
    split
    · exact rn_le f (a + 1) (by omega)
    · exact h
theorem sk_in {tb : Nat → Int32} {tn a : Nat} (h : a ≤ tn) : a ≤ sk tb tn a ∧ sk tb tn a ≤ tn := ⟨rn_ge _ _, rn_le _ _ h⟩
theorem tk_in {tb : Nat → Int32} {tn a : Nat} (h : a ≤ tn) : a ≤ (tkO tb tn a).2.1 ∧ (tkO tb tn a).2.1 ≤ (tkO tb tn a).2.2.2 ∧ (tkO tb tn a).2.2.2 ≤ tn ∧ (¬ (tkO tb tn a).1 = 0 → (tkO tb tn a).2.1 < (tkO tb tn a).2.2.2) := by
  obtain ⟨h1, h2⟩ := sk_in (tb := tb) h
  unfold tkO tkS
  split
  · exact ⟨h1, Nat.le_refl _, h2, fun z => absurd rfl z⟩
  · rename_i q
    split
    · have a1 := rn_ge (p := fun k => isLe (tb k)) (tn := tn) (tn - (sk tb tn a + 1)) (sk tb tn a + 1)
      have a2 := rn_le (p := fun k => isLe (tb k)) (tn := tn) (tn - (sk tb tn a + 1)) (sk tb tn a + 1) (by omega)
      exact ⟨h1, by show sk tb tn a ≤ rnF _ _ _ _; omega, a2, fun _ => by show sk tb tn a < rnF _ _ _ _; omega⟩
    · split
      · rename_i hd
        have a2 := rn_le (p := fun k => isDi (tb k)) (tn := tn) (tn - sk tb tn a) (sk tb tn a) (by omega)
        have a1 : sk tb tn a + 1 ≤ rnF (fun k => isDi (tb k)) tn (tn - sk tb tn a) (sk tb tn a) := by
          obtain ⟨f, hf⟩ : ∃ f, tn - sk tb tn a = f + 1 := ⟨tn - sk tb tn a - 1, by omega⟩
          rw [hf]
          simp only [rnF]
          rw [if_pos ⟨by omega, hd⟩]
          exact rn_ge _ _
        exact ⟨h1, by show sk tb tn a ≤ rnF _ _ _ _; omega, a2, fun _ => by show sk tb tn a < rnF _ _ _ _; omega⟩
      · exact ⟨h1, by show sk tb tn a ≤ sk tb tn a + 1; omega, by show sk tb tn a + 1 ≤ tn; omega, fun _ => by show sk tb tn a < sk tb tn a + 1; omega⟩
/-! a memory with a row written -/
def pM (M : Mm) (p : Nat) (r : Nat → Int32) : Mm := (fun a k => if a = p then r k else M.1 a k, M.2.1, M.2.2)
theorem pM_p {M : Mm} {p : Nat} {r : Nat → Int32} : (pM M p r).1 p = r := by funext k; simp [pM]
theorem pM_o {M : Mm} {p a : Nat} {r : Nat → Int32} (h : a ≠ p) : (pM M p r).1 a = M.1 a := by funext k; simp [pM, h]
theorem pM_s {M : Mm} {p k : Nat} {r : Nat → Int32} {v : Int32} : sI (pM M p r) p k v = pM M p (upd r k v) := by
  refine Prod.ext ?_ rfl
  funext a l
  simp only [sI, pM, upd]
  grind
theorem pM_self {M : Mm} {p : Nat} : pM M p (M.1 p) = M := by
  refine Prod.ext ?_ rfl
  funext a l
  simp only [pM]
  grind
theorem pM_pM {M : Mm} {p : Nat} {r s : Nat → Int32} : pM (pM M p r) p s = pM M p s := by
  refine Prod.ext ?_ rfl
  funext a l
  simp only [pM]
  grind
theorem upd_s (r : Nat → Int32) (k : Nat) (v : Int32) : upd r k v k = v := by simp [upd]
def CTk (r : Nat → Int32) (τ : Tok) : Prop := r 2 = nI τ.2.2.2 ∧ r 3 = τ.1 ∧ r 4 = nI τ.2.1 ∧ r 5 = τ.2.2.1
section
variable {T : Th} {M : Mm} {p tn : Nat} {tb : Nat → Int32}
theorem c_isLetter {c : Int32} {Q : Int32 → Mm → Prop} (hq : Q (b2i (isLe c)) M) : WPi T mX4_isLetter [.int c] M Q := by
  refine WPM.of (by decide) rfl (Nat.le_of_ble_eq_true rfl) (sg_X4_isLetter_0 ?_)
  unfold b2i isLe at hq
  simp only [decide_eq_true_eq] at hq
  grind
theorem c_isDigit {c : Int32} {Q : Int32 → Mm → Prop} (hq : Q (b2i (isDi c)) M) : WPi T mX4_isDigit [.int c] M Q := by
  refine WPM.of (by decide) rfl (Nat.le_of_ble_eq_true rfl) (sg_X4_isDigit_0 ?_)
  unfold b2i isDi at hq
  simp only [decide_eq_true_eq] at hq
  grind
theorem l_letters {Q : Mm → Prop} (h4 : isX4 T p) (htn : tn ≤ 200) (ht : ∀ k, k < tn → M.1 (p + 1) k = tb k) :
    ∀ (f a : Nat) (r : Nat → Int32), tn - a = f → a ≤ tn → r 1 = nI tn → r 2 = nI a → (∀ r', r' 1 = r 1 → r' 6 = r 6 → r' 3 = r 3 → r' 4 = r 4 → r' 2 = nI (rnF (fun k => isLe (tb k)) tn f a) → r' 5 = (if rnF (fun k => isLe (tb k)) tn f a = a then r 5 else 0) → Q (pM M p r')) → WP T mX4_readLetters 28 [(0, .ref p)] [] (pM M p r) (qv Q) := by
  have o : ∀ r, (pM M p r).1 (p + 1) = M.1 (p + 1) := fun r => pM_o (by omega)
  intro f
  induction f with
  | zero =>
    intro a r hf ha h1 h2 hq
    refine sg_X4_readLetters_28 h4 ?_
    rw [pM_p, h1, h2]
    refine ⟨fun _ => hq r rfl rfl rfl rfl ?_ ?_, fun z => absurd (nI_le (by omega) (by omega)) z⟩
    · simp only [rnF]; exact h2
    · simp only [rnF]; rw [if_pos (by trivial)]
  | succ f ih =>
    intro a r hf ha h1 h2 hq
    refine sg_X4_readLetters_28 h4 ?_
    rw [pM_p, o, h1, h2, cl_nI (by omega), ht a (by omega)]
    refine ⟨fun z => absurd z (nI_ge (by omega) (by omega)), fun _ => ⟨fun z => absurd z (nI_ge (b := 200) (by omega) (by omega)), fun _ => ⟨vp_nI (by omega) (by decide), c_isLetter ?_⟩⟩⟩
    cases hl : isLe (tb a)
    · have e : rnF (fun k => isLe (tb k)) tn (f + 1) a = a := by simp only [rnF]; rw [if_neg (by simp [hl])]
      rw [e] at hq
      exact ⟨fun _ => hq r rfl rfl rfl rfl h2 (by rw [if_pos rfl]), fun z => absurd rfl z⟩
    · have e : rnF (fun k => isLe (tb k)) tn (f + 1) a = rnF (fun k => isLe (tb k)) tn f (a + 1) := by simp only [rnF]; rw [if_pos ⟨by omega, hl⟩]
      rw [e] at hq
      refine ⟨fun z => absurd z (by decide), fun _ => ?_⟩
      rw [pM_s]
      simp only [forall_eq]
      rw [pM_p, pM_s, upd_nm _ _ (by decide), h2, nI_1]
      refine ih (a + 1) _ (by omega) (by omega) (by rw [upd_nm _ _ (by decide), upd_nm _ _ (by decide)]; exact h1) (upd_s _ _ _) (fun r' e1 e6 e3 e4 e2 e5 => ?_)
      have hge := rn_ge (p := fun k => isLe (tb k)) (tn := tn) f (a + 1)
      refine hq r' ?_ ?_ ?_ ?_ e2 ?_
      · rw [e1, upd_nm _ _ (by decide), upd_nm _ _ (by decide)]
      · rw [e6, upd_nm _ _ (by decide), upd_nm _ _ (by decide)]
      · rw [e3, upd_nm _ _ (by decide), upd_nm _ _ (by decide)]
      · rw [e4, upd_nm _ _ (by decide), upd_nm _ _ (by decide)]
      · rw [if_neg (by omega), e5, upd_nm _ _ (by decide), upd_s]
        split <;> rfl
theorem l_digits {Q : Mm → Prop} (h4 : isX4 T p) (htn : tn ≤ 200) (ht : ∀ k, k < tn → M.1 (p + 1) k = tb k) :
    ∀ (f a : Nat) (r : Nat → Int32), tn - a = f → a ≤ tn → r 1 = nI tn → r 2 = nI a → (∀ r', r' 1 = r 1 → r' 6 = r 6 → r' 3 = r 3 → r' 4 = r 4 → r' 2 = nI (rnF (fun k => isDi (tb k)) tn f a) → r' 5 = dvF tb tn f a (r 5) → Q (pM M p r')) → WP T mX4_readDigits 73 [(0, .ref p)] [] (pM M p r) (qv Q) := by
  have o : ∀ r, (pM M p r).1 (p + 1) = M.1 (p + 1) := fun r => pM_o (by omega)
  intro f
  induction f with
  | zero =>
    intro a r hf ha h1 h2 hq
    refine sg_X4_readDigits_73 h4 ?_
    rw [pM_p, h1, h2]
    exact ⟨fun _ => hq r rfl rfl rfl rfl (by simp only [rnF]; exact h2) (by simp only [dvF]), fun z => absurd (nI_le (by omega) (by omega)) z⟩
  | succ f ih =>
    intro a r hf ha h1 h2 hq
    refine sg_X4_readDigits_73 h4 ?_
    rw [pM_p, o, h1, h2, cl_nI (by omega), ht a (by omega)]
    refine ⟨fun z => absurd z (nI_ge (by omega) (by omega)), fun _ => ⟨fun z => absurd z (nI_ge (b := 200) (by omega) (by omega)), fun _ => ⟨vp_nI (by omega) (by decide), c_isDigit ?_⟩⟩⟩
    simp only [rnF, dvF] at hq
    rw [pM_p, o, h2, cl_nI (by omega), ht a (by omega)]
    cases hl : isDi (tb a)
    · rw [if_neg (by simp [hl]), if_neg (by simp [hl])] at hq
      exact ⟨fun _ => hq r rfl rfl rfl rfl h2 rfl, fun z => absurd rfl z⟩
    · rw [if_pos ⟨by omega, hl⟩, if_pos ⟨by omega, hl⟩] at hq
      refine ⟨fun z => absurd z (by decide), fun _ => ⟨vp_nI (by omega) (by decide), ?_⟩⟩
      rw [pM_s]
      simp only [forall_eq]
      rw [pM_p, pM_s, upd_nm _ _ (by decide), h2, nI_1]
      refine ih (a + 1) _ (by omega) (by omega) (by rw [upd_nm _ _ (by decide), upd_nm _ _ (by decide)]; exact h1) (upd_s _ _ _) (fun r' e1 e6 e3 e4 e2 e5 => ?_)
      refine hq r' ?_ ?_ ?_ ?_ e2 ?_
      · rw [e1, upd_nm _ _ (by decide), upd_nm _ _ (by decide)]
      · rw [e6, upd_nm _ _ (by decide), upd_nm _ _ (by decide)]
      · rw [e3, upd_nm _ _ (by decide), upd_nm _ _ (by decide)]
      · rw [e4, upd_nm _ _ (by decide), upd_nm _ _ (by decide)]
      · rw [e5, upd_nm _ _ (by decide), upd_s]; rfl
theorem l_tok48 {Q : Mm → Prop} {s : Nat} {r : Nat → Int32} (h4 : isX4 T p) (htn : tn ≤ 200) (hs : s ≤ tn) (ht : ∀ k, k < tn → M.1 (p + 1) k = tb k) (h1 : r 1 = nI tn) (h2 : r 2 = nI s) (hq : ∀ r', r' 1 = r 1 → r' 6 = r 6 → CTk r' (tkS tb tn s) → Q (pM M p r')) : WP T mX4_readToken 48 [(0, .ref p)] [] (pM M p r) (qv Q) := by
  have o : ∀ r, (pM M p r).1 (p + 1) = M.1 (p + 1) := fun r => pM_o (by omega)
  refine sg_X4_readToken_48 h4 ?_
  rw [pM_p, pM_s]
  simp only [forall_eq]
  rw [pM_s, pM_p, o]
  generalize hr2 : upd (upd r 4 (r 2)) 5 0 = r2
  have f1 : r2 1 = nI tn := by rw [← hr2, upd_nm _ _ (by decide), upd_nm _ _ (by decide)]; exact h1
  have f2 : r2 2 = nI s := by rw [← hr2, upd_nm _ _ (by decide), upd_nm _ _ (by decide)]; exact h2
  have f4 : r2 4 = nI s := by rw [← hr2, upd_nm _ _ (by decide), upd_s]; exact h2
  have f5 : r2 5 = 0 := by rw [← hr2, upd_s]
  have f6 : r2 6 = r 6 := by rw [← hr2, upd_nm _ _ (by decide), upd_nm _ _ (by decide)]
  rw [f1, f2]
  unfold tkS at hq
  by_cases hend : tn ≤ s
  · rw [if_pos hend] at hq
    have fin : Q (pM M p (upd r2 3 0)) := hq _ (by rw [upd_nm _ _ (by decide), f1, h1]) (by rw [upd_nm _ _ (by decide), f6]) ⟨by rw [upd_nm _ _ (by decide)]; exact f2, upd_s _ _ _, by rw [upd_nm _ _ (by decide)]; exact f4, by rw [upd_nm _ _ (by decide)]; exact f5⟩
    rw [pM_s]
    exact ⟨fun _ => fin, fun _ => ⟨fun z => absurd (nI_le hend (by omega)) (by assumption), fun _ => fin⟩⟩
  · rw [if_neg hend] at hq
    refine ⟨fun z => absurd z (nI_ge (by omega) (by omega)), fun _ => ⟨fun _ => ⟨vp_nI (by omega) (by decide), c_isLetter ?_⟩, fun z => absurd (nI_lt (b := 200) (by omega) (by omega)) z⟩⟩
    rw [pM_p, o, f2, cl_nI (by omega), ht s (by omega)]
    cases hl : isLe (tb s)
    · rw [hl] at hq
      simp only [Bool.false_eq_true, if_false] at hq
      refine ⟨fun _ => ⟨vp_nI (by omega) (by decide), c_isDigit ?_⟩, fun z => absurd rfl z⟩
      rw [pM_p, o, f2, cl_nI (by omega), ht s (by omega)]
      cases hd : isDi (tb s)
      · rw [hd] at hq
        simp only [Bool.false_eq_true, if_false] at hq
        refine ⟨fun _ => ⟨vp_nI (by omega) (by decide), ?_⟩, fun z => absurd rfl z⟩
        simp only [pM_s, pM_p]
        rw [upd_nm _ _ (by decide), upd_nm _ _ (by decide), f2, nI_1]
        have fin : ∀ v : Int32, v = (if tb s = 59 then 3 else 4) → Q (pM M p (upd (upd r2 3 v) 2 (nI (s + 1)))) := fun v hv =>
          hq _ (by rw [upd_nm _ _ (by decide), upd_nm _ _ (by decide), f1, h1]) (by rw [upd_nm _ _ (by decide), upd_nm _ _ (by decide), f6]) ⟨upd_s _ _ _, by rw [upd_nm _ _ (by decide), upd_s]; exact hv, by rw [upd_nm _ _ (by decide), upd_nm _ _ (by decide)]; exact f4, by rw [upd_nm _ _ (by decide), upd_nm _ _ (by decide)]; exact f5⟩
        exact ⟨fun z => fin 4 (by rw [if_neg z]), fun z => fin 3 (by rw [if_pos z])⟩
      · rw [hd] at hq
        simp only [if_true] at hq
        refine ⟨fun z => absurd z (by decide), fun _ => ?_⟩
        have go : ∀ v : Int32, v = (if tb s = 48 ∧ s + 1 < tn ∧ isDi (tb (s + 1)) = true then 4 else 2) → ∀ N, N = pM M p (upd r2 3 v) → ∀ N2, N2 = sI N p 2 (N.1 p 4) → WP T mX4_readDigits 73 [(0, .ref p)] [] N2 (qv Q) := by
          intro v hv N eN N2 eN2
          rw [eN2, eN, pM_p, pM_s, upd_nm _ _ (by decide), f4]
          refine l_digits h4 htn ht (tn - s) s _ rfl (by omega) (by rw [upd_nm _ _ (by decide), upd_nm _ _ (by decide)]; exact f1) (upd_s _ _ _) (fun r' e1 e6 e3 e4 e2 e5 => ?_)
          refine hq r' ?_ ?_ ⟨e2, ?_, ?_, ?_⟩
          · rw [e1, upd_nm _ _ (by decide), upd_nm _ _ (by decide), f1, h1]
          · rw [e6, upd_nm _ _ (by decide), upd_nm _ _ (by decide), f6]
          · rw [e3, upd_nm _ _ (by decide), upd_s]; exact hv
          · rw [e4, upd_nm _ _ (by decide), upd_nm _ _ (by decide)]; exact f4
          · rw [e5, upd_nm _ _ (by decide), upd_nm _ _ (by decide), f5]
        refine WPM.of (by decide) rfl (Nat.le_of_ble_eq_true rfl) (sg_X4_readDigits_0 h4 ?_)
        rw [pM_p, o, f4, f1, cl_nI (by omega), ht s (by omega), pM_s, nI_1]
        refine ⟨vp_nI (by omega) (by decide), fun z => go 2 (by rw [if_neg (fun q => z q.1)]), fun z => ⟨fun z2 => go 2 ?_, fun z2 => ⟨fun z3 => go 2 ?_, fun z3 => ⟨?_, c_isDigit ?_⟩⟩⟩⟩
        · rw [if_neg (fun q => absurd z2 (nI_ge q.2.1 (by omega)))]
        · rw [if_neg (fun q => absurd z3 (nI_ge (b := 200) (by omega) (by omega)))]
        · have : s + 1 < tn := by
            by_cases h : s + 1 < tn
            · exact h
            · exact absurd (nI_le (by omega) (by omega)) z2
          exact vp_nI (by omega) (by decide)
        · have hlt : s + 1 < tn := by
            by_cases h : s + 1 < tn
            · exact h
            · exact absurd (nI_le (by omega) (by omega)) z2
          rw [pM_s, pM_s, cl_nI (by omega), ht _ hlt]
          cases hd2 : isDi (tb (s + 1))
          · exact ⟨fun _ => go 2 (by rw [if_neg (by simp [hd2])]), fun z => absurd rfl z⟩
          · exact ⟨fun z => absurd z (by decide), fun _ => go 4 (by rw [if_pos ⟨z, hlt, hd2⟩])⟩
    · rw [hl] at hq
      simp only [if_true] at hq
      refine ⟨fun z => absurd z (by decide), fun _ => ?_⟩
      refine WPM.of (by decide) rfl (Nat.le_of_ble_eq_true rfl) (sg_X4_readLetters_0 h4 ?_)
      rw [pM_s]
      simp only [forall_eq]
      rw [pM_p, o, upd_nm _ _ (by decide), f4, cl_nI (by omega), ht s (by omega), pM_s, pM_p, pM_s, upd_nm _ _ (by decide), upd_nm _ _ (by decide), f4, nI_1]
      refine ⟨vp_nI (by omega) (by decide), ?_⟩
      refine l_letters h4 htn ht (tn - (s + 1)) (s + 1) _ rfl (by omega) (by rw [upd_nm _ _ (by decide), upd_nm _ _ (by decide), upd_nm _ _ (by decide)]; exact f1) (upd_s _ _ _) (fun r' e1 e6 e3 e4 e2 e5 => ?_)
      refine hq r' ?_ ?_ ⟨e2, ?_, ?_, ?_⟩
      · rw [e1, upd_nm _ _ (by decide), upd_nm _ _ (by decide), upd_nm _ _ (by decide), f1, h1]
      · rw [e6, upd_nm _ _ (by decide), upd_nm _ _ (by decide), upd_nm _ _ (by decide), f6]
      · rw [e3, upd_nm _ _ (by decide), upd_nm _ _ (by decide), upd_s]
      · rw [e4, upd_nm _ _ (by decide), upd_nm _ _ (by decide), upd_nm _ _ (by decide)]; exact f4
      · rw [e5, upd_nm _ _ (by decide), upd_s]
theorem l_tok0 {Q : Mm → Prop} (h4 : isX4 T p) (htn : tn ≤ 200) (ht : ∀ k, k < tn → M.1 (p + 1) k = tb k) :
    ∀ (f a : Nat) (r : Nat → Int32), tn - a = f → a ≤ tn → r 1 = nI tn → r 2 = nI a → (∀ r', r' 1 = r 1 → r' 6 = r 6 → CTk r' (tkO tb tn a) → Q (pM M p r')) → WP T mX4_readToken 0 [(0, .ref p)] [] (pM M p r) (qv Q) := by
  have o : ∀ r, (pM M p r).1 (p + 1) = M.1 (p + 1) := fun r => pM_o (by omega)
  intro f
  induction f with
  | zero =>
    intro a r hf ha h1 h2 hq
    refine sg_X4_readToken_0 h4 ?_
    rw [pM_p, h1, h2]
    refine ⟨fun _ => l_tok48 (s := a) h4 htn ha ht h1 h2 ?_, fun z => absurd (nI_le (by omega) (by omega)) z⟩
    have e : sk tb tn a = a := by unfold sk; rw [hf]; rfl
    unfold tkO at hq
    rw [e] at hq; exact hq
  | succ f ih =>
    intro a r hf ha h1 h2 hq
    refine sg_X4_readToken_0 h4 ?_
    rw [pM_p, o, h1, h2, cl_nI (by omega), ht a (by omega)]
    refine ⟨fun z => absurd z (nI_ge (by omega) (by omega)), fun _ => ⟨fun z => absurd z (nI_ge (b := 200) (by omega) (by omega)), fun _ => ⟨vp_nI (by omega) (by decide), fun z => ?_, fun z => ?_⟩⟩⟩
    · refine l_tok48 (s := a) h4 htn ha ht h1 h2 ?_
      have e : sk tb tn a = a := by
        unfold sk; rw [hf]; simp only [rnF]
        rw [if_neg (by simp [z])]
      unfold tkO at hq
      rw [e] at hq; exact hq
    · rw [pM_s, nI_1]
      simp only [forall_eq]
      have e : sk tb tn a = sk tb tn (a + 1) := by
        unfold sk; rw [hf]; simp only [rnF]
        rw [if_pos ⟨by omega, by simp [z]⟩, show tn - (a + 1) = f by omega]
      refine ih (a + 1) _ (by omega) (by omega) (by rw [upd_nm _ _ (by decide)]; exact h1) (upd_s _ _ _) (fun r' e1 e6 ec => hq r' ?_ ?_ ?_)
      · rw [e1, upd_nm _ _ (by decide)]
      · rw [e6, upd_nm _ _ (by decide)]
      · unfold tkO at ec ⊢
        rw [e]; exact ec
theorem c_readToken {Q : Mm → Prop} {a : Nat} {r : Nat → Int32} (h4 : isX4 T p) (htn : tn ≤ 200) (ha : a ≤ tn) (ht : ∀ k, k < tn → M.1 (p + 1) k = tb k) (h1 : r 1 = nI tn) (h2 : r 2 = nI a) (hq : ∀ r', r' 1 = r 1 → r' 6 = r 6 → CTk r' (tkO tb tn a) → Q (pM M p r')) : WPv T mX4_readToken [.ref p] (pM M p r) Q :=
  WPM.of (by decide) rfl (Nat.le_of_ble_eq_true rfl) (l_tok0 h4 htn ht (tn - a) a r rfl ha h1 h2 hq)
end
