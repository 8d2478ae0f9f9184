/-! CHANCE: a wagon alone by minutes of going; codes; runs -/
def csq (mf : Nat → Nat) (l0 : Nat) : Nat → Nat × Nat
  | 0 => (0, l0)
  | g + 1 => if (csq mf l0 g).2 < 2 then ((csq mf l0 g).1 + 1, mf ((csq mf l0 g).1 + 1)) else ((csq mf l0 g).1, (csq mf l0 g).2 - 1)
def csK (mf : Nat → Nat) (l0 g : Nat) : Nat := 8 * (csq mf l0 g).1 + (csq mf l0 g).2
theorem csq_in {mf : Nat → Nat} {l0 : Nat} (hm : ∀ a, a ≤ 13 → mf a ≤ 7) (hl : l0 ≤ 7) : ∀ (g : Nat), g ≤ 13 → (csq mf l0 g).1 ≤ g ∧ (csq mf l0 g).2 ≤ 7
  | 0, _ => ⟨by simp [csq], by simp [csq]; exact hl⟩
  | g + 1, h => by
    have ih := csq_in hm hl g (by omega)
    simp only [csq]
    split
    · exact ⟨by show _ + 1 ≤ _; omega, hm _ (by omega)⟩
    · exact ⟨by show _ ≤ _; omega, by show _ - 1 ≤ _; omega⟩
theorem csq_st (mf : Nat → Nat) (l0 g : Nat) : (csq mf l0 g).1 < (csq mf l0 (g + 1)).1 ∨ ((csq mf l0 g).1 = (csq mf l0 (g + 1)).1 ∧ (csq mf l0 (g + 1)).2 < (csq mf l0 g).2) := by
  simp only [csq]
  split
  · exact Or.inl (by show _ < _ + 1; omega)
  · exact Or.inr ⟨rfl, by show _ - 1 < _; omega⟩
theorem csq_up (mf : Nat → Nat) (l0 g : Nat) : ∀ (d : Nat), (csq mf l0 g).1 < (csq mf l0 (g + d + 1)).1 ∨ ((csq mf l0 g).1 = (csq mf l0 (g + d + 1)).1 ∧ (csq mf l0 (g + d + 1)).2 < (csq mf l0 g).2)
  | 0 => csq_st mf l0 g
  | d + 1 => by
    have h1 := csq_up mf l0 g d
    have h2 := csq_st mf l0 (g + d + 1)
    rw [show g + (d + 1) + 1 = g + d + 1 + 1 by omega]
    omega
theorem csK_inj {mf : Nat → Nat} {l0 g h : Nat} (hm : ∀ a, a ≤ 13 → mf a ≤ 7) (hl : l0 ≤ 7) (hg : g ≤ 13) (hh : h ≤ 13) (e : csK mf l0 g = csK mf l0 h) : g = h := by
  have a := csq_in hm hl g hg
  have b := csq_in hm hl h hh
  unfold csK at e
  rcases Nat.lt_trichotomy g h with q | q | q
  · have u := csq_up mf l0 g (h - g - 1)
    rw [show g + (h - g - 1) + 1 = h by omega] at u
    omega
  · exact q
  · have u := csq_up mf l0 h (g - h - 1)
    rw [show h + (g - h - 1) + 1 = g by omega] at u
    omega
def Rn (x : Nat) (al : Nat → Nat → Bool) : Nat → Nat → Nat
  | 0, g => if g = 0 then 1 else 0
  | t + 1, g => if al (t + 1) g then Rn x al t g * x + (if g = 0 then 0 else Rn x al t (g - 1) * (10 - x)) else 0
theorem Rn_out {x : Nat} {al : Nat → Nat → Bool} : ∀ (t g : Nat), t < g → Rn x al t g = 0
  | 0, g, h => by simp only [Rn]; rw [if_neg (by omega)]
  | t + 1, g, h => by
    simp only [Rn]
    rw [Rn_out t g (by omega), Rn_out t (g - 1) (by omega)]
    simp
theorem Rn_le {x : Nat} {al : Nat → Nat → Bool} (hx : x ≤ 10) : ∀ (t g : Nat), Rn x al t g ≤ 10 ^ t
  | 0, g => by simp only [Rn]; split <;> simp
  | t + 1, g => by
    have h1 := Nat.mul_le_mul_right x (Rn_le (al := al) hx t g)
    have h2 := Nat.mul_le_mul_right (10 - x) (Rn_le (al := al) hx t (g - 1))
    have h3 : 10 ^ t * x + 10 ^ t * (10 - x) = 10 ^ (t + 1) := by
      rw [← Nat.mul_add, show x + (10 - x) = 10 by omega, Nat.pow_succ]
    simp only [Rn]
    split
    · split <;> omega
    · exact Nat.zero_le _
theorem p12 {t : Nat} (h : t ≤ 12) : 10 ^ t ≤ 1000000000000 := Nat.pow_le_pow_right (n := 10) (j := 12) (by decide) h
/-- all runs -/
def Rs (R : Nat → Nat) : Nat := foldF (fun s g => s + R g) 0 13 0
theorem fold_le {R : Nat → Nat} {b : Nat} (h : ∀ g, R g ≤ b) : ∀ (n i s : Nat), foldF (fun s g => s + R g) i n s ≤ s + n * b
  | 0, _, _ => by simp [foldF]
  | n + 1, i, s => by
    simp only [foldF]
    have h1 := fold_le h n (i + 1) (s + R i)
    have h2 := h i
    have h3 : (n + 1) * b = n * b + b := Nat.succ_mul n b
    omega
theorem fold_acc {R : Nat → Nat} : ∀ (n i s : Nat), foldF (fun s g => s + R g) i n s = s + foldF (fun s g => s + R g) i n 0
  | 0, _, _ => by simp [foldF]
  | n + 1, i, s => by
    simp only [foldF]
    rw [fold_acc n (i + 1) (s + R i), fold_acc n (i + 1) (0 + R i)]
    omega
theorem fold_add {A B : Nat → Nat} : ∀ (n i : Nat), foldF (fun s g => s + (A g + B g)) i n 0 = foldF (fun s g => s + A g) i n 0 + foldF (fun s g => s + B g) i n 0
  | 0, _ => by simp [foldF]
  | n + 1, i => by
    simp only [foldF]
    rw [fold_acc n (i + 1) (0 + (A i + B i)), fold_acc n (i + 1) (0 + A i), fold_acc n (i + 1) (0 + B i), fold_add n (i + 1)]
    omega
theorem fold_one {k v : Nat} : ∀ (n i : Nat), foldF (fun s g => s + (if g = k then v else 0)) i n 0 = if i ≤ k ∧ k < i + n then v else 0
  | 0, i => by simp only [foldF]; rw [if_neg (by omega)]
  | n + 1, i => by
    simp only [foldF]
    rw [fold_acc n (i + 1) _, fold_one n (i + 1)]
    by_cases h : i = k
    · rw [if_pos h, if_neg (by omega), if_pos (by omega)]; omega
    · rw [if_neg h]
      by_cases h2 : i + 1 ≤ k ∧ k < i + 1 + n
      · rw [if_pos h2, if_pos (by omega)]; omega
      · rw [if_neg h2, if_neg (by omega)]
theorem fold_zero : ∀ (n i : Nat), foldF (fun s (_ : Nat) => s + 0) i n 0 = 0
  | 0, _ => by simp [foldF]
  | n + 1, i => by simp only [foldF]; exact fold_zero n (i + 1)
/-- a sum over codes is the sum over minutes of going -/
theorem fold_code {K R U : Nat → Nat} {N : Nat} (hK : ∀ g, g ≤ 12 → K g < N) (hi : ∀ g h, g ≤ 12 → h ≤ 12 → K g = K h → g = h) (h1 : ∀ g, g ≤ 12 → U (K g) = R g) (h2 : ∀ k, (∀ g, g ≤ 12 → K g ≠ k) → U k = 0) : foldF (fun s k => s + U k) 0 N 0 = Rs R := by
  have main : ∀ (n : Nat), n ≤ 13 → ∀ U' : Nat → Nat, (∀ g, g ≤ 12 → U' (K g) = if g < n then R g else 0) → (∀ k, (∀ g, g ≤ 12 → K g ≠ k) → U' k = 0) → foldF (fun s k => s + U' k) 0 N 0 = foldF (fun s g => s + R g) 0 n 0 := by
    intro n
    induction n with
    | zero =>
      intro hn U' u1 u2
      have hz : ∀ k, U' k = 0 := fun k => by
        by_cases h : ∃ g, g ≤ 12 ∧ K g = k
        · obtain ⟨g, g1, g2⟩ := h
          rw [← g2, u1 g g1]; rfl
        · exact u2 k (fun g g1 g2 => h ⟨g, g1, g2⟩)
      rw [foldF_cong (g := fun s _ => s + 0) N 0 0 (fun a w _ _ => by rw [hz w])]
      rw [fold_zero]; simp [foldF]
    | succ n ih =>
      intro hn U' u1 u2
      have e := ih (by omega) (fun k => if k = K n then 0 else U' k) (fun g hg => by
        show (if K g = K n then 0 else U' (K g)) = _
        by_cases q : g = n
        · subst q; rw [if_pos rfl, if_neg (by omega)]
        · rw [if_neg (fun z => q (hi g n hg (by omega) z)), u1 g hg]
          by_cases q2 : g < n
          · rw [if_pos (by omega), if_pos q2]
          · rw [if_neg (by omega), if_neg q2]) (fun k hk => by
        show (if k = K n then 0 else U' k) = 0
        split
        · rfl
        · exact u2 k hk)
      have hs : ∀ k, U' k = (if k = K n then 0 else U' k) + (if k = K n then R n else 0) := fun k => by
        by_cases q : k = K n
        · rw [if_pos q, if_pos q, q, u1 n (by omega), if_pos (by omega)]; omega
        · rw [if_neg q, if_neg q]; omega
      rw [foldF_cong (g := fun s k => s + ((if k = K n then 0 else U' k) + (if k = K n then R n else 0))) N 0 0 (fun a w _ _ => congrArg (a + ·) (hs w))]
      rw [fold_add, e, fold_one, if_pos ⟨Nat.zero_le _, by have := hK n (by omega); omega⟩]
      have hl : ∀ (m i s : Nat), foldF (fun s g => s + R g) i (m + 1) s = foldF (fun s g => s + R g) i m s + R (i + m) := by
        intro m
        induction m with
        | zero => intro i s; simp [foldF]
        | succ m ih2 => intro i s; rw [show foldF (fun s g => s + R g) i (m + 1 + 1) s = foldF (fun s g => s + R g) (i + 1) (m + 1) (s + R i) from rfl, ih2]; rw [show i + 1 + m = i + (m + 1) by omega]; rfl
      rw [hl n 0 0, Nat.zero_add]
  exact main 13 (by omega) U (fun g hg => by rw [if_pos (by omega)]; exact h1 g hg) h2
/-! EUCLID -/
def euc : Nat → Nat → Nat → Nat
  | 0, a, _ => a
  | f + 1, a, b => if b = 0 then a else euc f b (a % b)
theorem euc_gcd : ∀ (m a b f : Nat), b < 2 ^ m → 2 * m ≤ f → euc f a b = Nat.gcd b a
  | 0, a, b, f, h, _ => by
    have hb : b = 0 := by simp at h; exact h
    subst hb
    cases f with
    | zero => simp [euc]
    | succ f => simp [euc]
  | m + 1, a, b, f, h, hf => by
    obtain ⟨f', rfl⟩ : ∃ f', f = f' + 2 := ⟨f - 2, by omega⟩
    simp only [euc]
    by_cases hb : b = 0
    · subst hb; simp
    · rw [if_neg hb]
      by_cases hr : a % b = 0
      · rw [if_pos hr, Nat.gcd_rec, hr]; simp
      · rw [if_neg hr]
        have hlt : b % (a % b) < 2 ^ m := by
          have h1 : a % b < b := Nat.mod_lt _ (by omega)
          have h2 : b % (a % b) < a % b := Nat.mod_lt _ (by omega)
          have h3 : 1 ≤ b / (a % b) := Nat.div_pos (by omega) (by omega)
          have h4 := Nat.div_add_mod b (a % b)
          have h5 : a % b * 1 ≤ a % b * (b / (a % b)) := Nat.mul_le_mul_left _ h3
          rw [Nat.pow_succ] at h
          omega
        rw [euc_gcd m (a % b) (b % (a % b)) f' hlt (by omega), ← Nat.gcd_rec, ← Nat.gcd_rec]
