/-! PACES joined: as many rounds as pairs are enough -/
def prF (A B : Nat → Nat) (p : Nat → Int32) (i : Nat) : Nat → Int32 := fun w => if w = B i then mx2 (p (A i)) (p (B i)) else if w = A i then mx2 (p (A i)) (p (B i)) else p w
def jf (A B : Nat → Nat) (m : Nat) (p : Nat → Int32) : Nat → Int32 := foldF (prF A B) 0 m p
def jr (A B : Nat → Nat) (m : Nat) : Nat → (Nat → Int32) → Nat → Int32
  | 0, p => p
  | n + 1, p => jr A B m n (jf A B m p)
theorem mx_t {t a b : Int32} : t ≤ mx2 a b ↔ t ≤ a ∨ t ≤ b := by unfold mx2; grind
section
variable {A B : Nat → Nat} {t : Int32}
theorem pr_t {p : Nat → Int32} {i w : Nat} : t ≤ prF A B p i w ↔ if w = A i ∨ w = B i then (t ≤ p (A i) ∨ t ≤ p (B i)) else t ≤ p w := by
  unfold prF
  by_cases h1 : w = B i
  · rw [if_pos h1, if_pos (Or.inr h1)]; exact mx_t
  · rw [if_neg h1]
    by_cases h2 : w = A i
    · rw [if_pos h2, if_pos (Or.inl h2)]; exact mx_t
    · rw [if_neg h2, if_neg (fun q => q.elim h2 h1)]
theorem pr_c {p q : Nat → Int32} {i : Nat} (h : ∀ w, t ≤ p w ↔ t ≤ q w) (w : Nat) : t ≤ prF A B p i w ↔ t ≤ prF A B q i w := by
  rw [pr_t, pr_t, h (A i), h (B i), h w]
theorem pr_m {p : Nat → Int32} {i w : Nat} (h : t ≤ p w) : t ≤ prF A B p i w := by
  rw [pr_t]
  split
  · rename_i q
    rcases q with q | q
    · rw [q] at h; exact Or.inl h
    · rw [q] at h; exact Or.inr h
  · exact h
theorem jf_c : ∀ (n i : Nat) (p q : Nat → Int32), (∀ w, t ≤ p w ↔ t ≤ q w) → ∀ w, t ≤ foldF (prF A B) i n p w ↔ t ≤ foldF (prF A B) i n q w
  | 0, _, _, _, h => h
  | n + 1, i, p, q, h => by simp only [foldF]; exact jf_c n (i + 1) _ _ (pr_c h)
theorem jf_m : ∀ (n i : Nat) (p : Nat → Int32) (w : Nat), t ≤ p w → t ≤ foldF (prF A B) i n p w
  | 0, _, _, _, h => h
  | n + 1, i, p, w, h => by simp only [foldF]; exact jf_m n (i + 1) _ w (pr_m h)
theorem jf_g : ∀ (n i : Nat) (p : Nat → Int32), (∃ w, t ≤ foldF (prF A B) i n p w ∧ ¬ t ≤ p w) → ∃ k, i ≤ k ∧ k < i + n ∧ ¬ (t ≤ p (A k) ∧ t ≤ p (B k)) ∧ (t ≤ foldF (prF A B) i n p (A k) ∧ t ≤ foldF (prF A B) i n p (B k))
  | 0, _, _, ⟨w, h1, h2⟩ => absurd h1 h2
  | n + 1, i, p, ⟨w, h1, h2⟩ => by
    simp only [foldF] at h1 ⊢
    by_cases hc : ∃ u, t ≤ prF A B p i u ∧ ¬ t ≤ p u
    · obtain ⟨u, u1, u2⟩ := hc
      rw [pr_t] at u1
      split at u1
      · rename_i hu
        refine ⟨i, by omega, by omega, fun q => ?_, jf_m n (i + 1) _ _ ?_, jf_m n (i + 1) _ _ ?_⟩
        · rcases hu with hu | hu
          · rw [hu] at u2; exact u2 q.1
          · rw [hu] at u2; exact u2 q.2
        · rw [pr_t, if_pos (Or.inl rfl)]; exact u1
        · rw [pr_t, if_pos (Or.inr rfl)]; exact u1
      · exact absurd u1 u2
    · have hi : ∀ u, t ≤ prF A B p i u ↔ t ≤ p u := fun u => ⟨fun q => Decidable.byContradiction fun z => hc ⟨u, q, z⟩, pr_m⟩
      obtain ⟨k, k1, k2, k3, k4⟩ := jf_g n (i + 1) (prF A B p i) ⟨w, h1, fun q => h2 ((hi w).mp q)⟩
      exact ⟨k, by omega, by omega, fun q => k3 ⟨(hi _).mpr q.1, (hi _).mpr q.2⟩, k4⟩
theorem sum_mono {f g : Nat → Nat} (h : ∀ i, f i ≤ g i) : ∀ (n i : Nat), foldF (fun s k => s + f k) i n 0 ≤ foldF (fun s k => s + g k) i n 0
  | 0, _ => Nat.le_refl _
  | n + 1, i => by
    simp only [foldF]
    rw [fold_acc n (i + 1), fold_acc (R := g) n (i + 1)]
    have a := sum_mono h n (i + 1)
    have b := h i
    omega
theorem sum_lt {f g : Nat → Nat} (h : ∀ i, f i ≤ g i) : ∀ (n i k : Nat), i ≤ k → k < i + n → f k < g k → foldF (fun s k => s + f k) i n 0 < foldF (fun s k => s + g k) i n 0
  | 0, i, k, h1, h2, _ => by omega
  | n + 1, i, k, h1, h2, h3 => by
    simp only [foldF]
    rw [fold_acc n (i + 1), fold_acc (R := g) n (i + 1)]
    have a := sum_mono h n (i + 1)
    have b := h i
    by_cases e : k = i
    · subst e; omega
    · have c := sum_lt h n (i + 1) k (by omega) (by omega) h3
      omega
def cnT (A B : Nat → Nat) (m : Nat) (t : Int32) (p : Nat → Int32) : Nat := foldF (fun s k => s + if t ≤ p (A k) ∧ t ≤ p (B k) then 1 else 0) 0 m 0
theorem cn_le {m : Nat} {p : Nat → Int32} : cnT A B m t p ≤ m := by
  have h := fold_le (R := fun k => if t ≤ p (A k) ∧ t ≤ p (B k) then 1 else 0) (b := 1) (fun g => by split <;> omega) m 0 0
  unfold cnT
  omega
theorem cn_lt {m : Nat} {p : Nat → Int32} (h : ∃ w, t ≤ jf A B m p w ∧ ¬ t ≤ p w) : cnT A B m t p < cnT A B m t (jf A B m p) := by
  obtain ⟨k, k1, k2, k3, k4⟩ := jf_g m 0 p h
  refine sum_lt (fun i => ?_) m 0 k k1 k2 ?_
  · by_cases q : t ≤ p (A i) ∧ t ≤ p (B i)
    · rw [if_pos q, if_pos ⟨jf_m m 0 p _ q.1, jf_m m 0 p _ q.2⟩]; omega
    · rw [if_neg q]; omega
  · rw [if_neg k3, if_pos (show t ≤ jf A B m p (A k) ∧ t ≤ jf A B m p (B k) from k4)]; omega
theorem jr_s {m : Nat} : ∀ (n : Nat) (p : Nat → Int32), jr A B m (n + 1) p = jf A B m (jr A B m n p)
  | 0, _ => rfl
  | n + 1, p => by
    rw [show jr A B m (n + 1 + 1) p = jr A B m (n + 1) (jf A B m p) from rfl, jr_s n (jf A B m p)]
    rfl
theorem jr_cn {m : Nat} (p : Nat → Int32) : ∀ (r : Nat), (∃ w, t ≤ jf A B m (jr A B m r p) w ∧ ¬ t ≤ jr A B m r p w) → r + 1 ≤ cnT A B m t (jf A B m (jr A B m r p))
  | 0, h => by have := cn_lt h; omega
  | r + 1, h => by
    have h2 : ∃ w, t ≤ jf A B m (jr A B m r p) w ∧ ¬ t ≤ jr A B m r p w := by
      refine Classical.byContradiction fun hc => ?_
      obtain ⟨w, w1, w2⟩ := h
      have hi : ∀ u, t ≤ jf A B m (jr A B m r p) u ↔ t ≤ jr A B m r p u := fun u => ⟨fun q => Decidable.byContradiction fun z => hc ⟨u, q, z⟩, jf_m m 0 _ u⟩
      rw [jr_s] at w1 w2
      exact w2 ((jf_c m 0 _ _ hi w).mp w1)
    have a := jr_cn p r h2
    have b := cn_lt h
    rw [jr_s] at b ⊢
    omega
theorem jr_fix {m : Nat} (p : Nat → Int32) : jf A B m (jr A B m m p) = jr A B m m p := by
  have hi : ∀ (t : Int32) w, t ≤ jf A B m (jr A B m m p) w ↔ t ≤ jr A B m m p w := fun t w => by
    refine ⟨fun q => Decidable.byContradiction fun z => ?_, jf_m m 0 _ w⟩
    have a := jr_cn p m ⟨w, q, z⟩
    have b := cn_le (A := A) (B := B) (t := t) (m := m) (p := jf A B m (jr A B m m p))
    omega
  funext w
  exact Int32.le_antisymm ((hi _ w).mp (Int32.le_refl _)) ((hi _ w).mpr (Int32.le_refl _))
theorem jr_more {m : Nat} (p : Nat → Int32) : ∀ (k : Nat), jr A B m (m + k) p = jr A B m m p
  | 0 => rfl
  | k + 1 => by rw [show m + (k + 1) = m + k + 1 by omega, jr_s, jr_more p k, jr_fix]
theorem pr_n {n : Nat} {p q : Nat → Int32} {i : Nat} (ha : A i < n) (hb : B i < n) (h : ∀ w, w < n → p w = q w) : ∀ w, w < n → prF A B p i w = prF A B q i w := fun w hw => by
  unfold prF
  rw [h _ ha, h _ hb, h w hw]
theorem jf_n {n m : Nat} (hp : ∀ i, i < m → A i < n ∧ B i < n) : ∀ (k i : Nat) (p q : Nat → Int32), i + k ≤ m → (∀ w, w < n → p w = q w) → ∀ w, w < n → foldF (prF A B) i k p w = foldF (prF A B) i k q w
  | 0, _, _, _, _, h => h
  | k + 1, i, p, q, hi, h => by
    simp only [foldF]
    exact jf_n hp k (i + 1) _ _ (by omega) (pr_n (hp i (by omega)).1 (hp i (by omega)).2 h)
theorem jr_n {n m : Nat} (hp : ∀ i, i < m → A i < n ∧ B i < n) : ∀ (k : Nat) (p q : Nat → Int32), (∀ w, w < n → p w = q w) → ∀ w, w < n → jr A B m k p w = jr A B m k q w
  | 0, _, _, h => h
  | k + 1, p, q, h => jr_n hp k _ _ (jf_n hp m 0 p q (by omega) h)
/-- what stays in bounds -/
theorem pr_b {n : Nat} {lo hi : Int32} {p : Nat → Int32} {i : Nat} (ha : A i < n) (hb : B i < n) (h : ∀ w, w < n → lo ≤ p w ∧ p w ≤ hi) : ∀ w, w < n → lo ≤ prF A B p i w ∧ prF A B p i w ≤ hi := fun w hw => by
  have a := h _ ha
  have b := h _ hb
  have c := h w hw
  unfold prF mx2
  split
  · split
    · exact b
    · exact a
  · split
    · split
      · exact b
      · exact a
    · exact c
theorem jf_b {n m : Nat} {lo hi : Int32} (hp : ∀ i, i < m → A i < n ∧ B i < n) : ∀ (k i : Nat) (p : Nat → Int32), i + k ≤ m → (∀ w, w < n → lo ≤ p w ∧ p w ≤ hi) → ∀ w, w < n → lo ≤ foldF (prF A B) i k p w ∧ foldF (prF A B) i k p w ≤ hi
  | 0, _, _, _, h => h
  | k + 1, i, p, hi', h => by
    simp only [foldF]
    exact jf_b hp k (i + 1) _ (by omega) (pr_b (hp i (by omega)).1 (hp i (by omega)).2 h)
theorem jr_b {n m : Nat} {lo hi : Int32} (hp : ∀ i, i < m → A i < n ∧ B i < n) : ∀ (k : Nat) (p : Nat → Int32), (∀ w, w < n → lo ≤ p w ∧ p w ≤ hi) → ∀ w, w < n → lo ≤ jr A B m k p w ∧ jr A B m k p w ≤ hi
  | 0, _, h => h
  | k + 1, p, h => jr_b hp k _ (jf_b hp m 0 p (by omega) h)
end
/-- the class's rounds are those -/
theorem jnS_pr {D : Blk} {A B : Nat → Nat} {i n : Nat} (h6 : D 0 6 = nI n) (hn : n ≤ 5) (ha : A i < n) (hb : B i < n) (e4 : D 4 i = nI (A i)) (e5 : D 5 i = nI (B i)) : jnS D i 2 = prF A B (D 2) i := by
  have w1 : ∀ k, k < n → hasWg D (nI k) = true := fun k hk => by
    unfold hasWg; rw [h6]
    exact decide_eq_true ⟨nI_pos' (by omega), nI_lt hk (by omega), nI_lt (b := 5) (by omega) (by omega)⟩
  unfold jnS
  rw [e4, e5, if_pos ⟨w1 _ ha, w1 _ hb⟩, cl_nI (by omega), cl_nI (by omega)]
  funext w
  unfold prF
  by_cases h1 : w = B i
  · rw [if_pos h1, h1, ub_s]
  · rw [if_neg h1, ub_n _ _ (fun z => h1 z.2)]
    by_cases h2 : w = A i
    · rw [if_pos h2, h2, ub_s]
    · rw [if_neg h2, ub_n _ _ (fun z => h2 z.2)]
theorem jnF_jf {A B : Nat → Nat} {n m : Nat} (hn : n ≤ 5) (hp : ∀ i, i < m → A i < n ∧ B i < n) : ∀ (k i : Nat) (D : Blk), i + k ≤ m → D 0 6 = nI n → (∀ i, i < m → D 4 i = nI (A i) ∧ D 5 i = nI (B i)) → foldF jnS i k D 2 = foldF (prF A B) i k (D 2)
  | 0, _, _, _, _, _ => rfl
  | k + 1, i, D, hi, h6, h45 => by
    simp only [foldF]
    rw [jnF_jf hn hp k (i + 1) (jnS D i) (by omega) (by rw [jnS_row (by decide)]; exact h6) (fun q hq => by rw [jnS_row (by decide), jnS_row (by decide)]; exact h45 q hq), jnS_pr h6 hn (hp i (by omega)).1 (hp i (by omega)).2 (h45 i (by omega)).1 (h45 i (by omega)).2]
theorem jnN_jr {A B : Nat → Nat} {n m : Nat} (hn : n ≤ 5) (hp : ∀ i, i < m → A i < n ∧ B i < n) : ∀ (k : Nat) (D : Blk), nP D = m → D 0 6 = nI n → (∀ i, i < m → D 4 i = nI (A i) ∧ D 5 i = nI (B i)) → jnN k D 2 = jr A B m k (D 2)
  | 0, _, _, _, _ => rfl
  | k + 1, D, hm, h6, h45 => by
    simp only [jnN, jr]
    rw [jnN_jr hn hp k (jnB D) (by rw [← hm]; exact nP_of (by rw [jnB_row (by decide)])) (by rw [jnB_row (by decide)]; exact h6) (fun q hq => by rw [jnB_row (by decide), jnB_row (by decide)]; exact h45 q hq)]
    congr 1
    unfold jnB jf
    rw [hm]
    exact jnF_jf hn hp m 0 D (by omega) h6 h45
