/-! BOTH SEARCHES meet -/
theorem safe_cong {G : Blk} {L : List (Nat × Int32)} {sp : Nat} {st st' : Nat → Nat} {had : Int32} (h : ∀ i, i < L.length → st' i = st i) : ∀ (m t : Nat) (B : Blk), safeF G L sp st' had m t B = safeF G L sp st had m t B
  | 0, _, _ => rfl
  | m + 1, t, B => by
    have e : ordB L sp st' t B = ordB L sp st t B := foldF_cong _ _ _ (fun a w _ hw => by unfold ordS; rw [h w (by omega)])
    simp only [safeF]
    rw [e, safe_cong h m (t + 1)]
theorem dgs_out : ∀ (k n j : Nat), k ≤ j → dgs k n j = 0
  | 0, _, _, _ => rfl
  | k + 1, n, j, h => by
    simp only [dgs]
    rw [if_neg (by omega)]
    exact dgs_out k (n / 7) j (by omega)
theorem tu_box {k sp n : Nat} (hm : mayC k sp n = true) : boxP k sp (dgs k n 0) (dgs k n 1) (dgs k n 2) := by
  have hm := of_decide_eq_true hm
  have a : ∀ i, i < 3 → dgs k n i ≤ bx k sp i := fun i hi => by
    unfold bx
    by_cases h : i < k ∧ i ≠ sp
    · rw [if_pos h]; exact dgs_le k n i
    · rw [if_neg h]
      by_cases h2 : i < k
      · have : i = sp := Decidable.byContradiction fun q => h ⟨h2, q⟩
        subst this
        omega
      · rw [dgs_out k n i (by omega)]; omega
  exact ⟨a 0 (by omega), a 1 (by omega), a 2 (by omega)⟩
theorem tu_sum {k n : Nat} (hk : k ≤ 3) : dsm k n = dgs k n 0 + dgs k n 1 + dgs k n 2 := by
  have : k = 0 ∨ k = 1 ∨ k = 2 ∨ k = 3 := by omega
  rcases this with h | h | h | h <;> subst h <;> simp [dsm, dgs] <;> omega
theorem tu_code {k sp a b c : Nat} (hk : k ≤ 3) (hx : boxP k sp a b c) : ∃ n, n < 7 ^ k ∧ mayC k sp n = true ∧ dgs k n 0 = a ∧ dgs k n 1 = b ∧ dgs k n 2 = c := by
  obtain ⟨x0, x1, x2⟩ := hx
  have main : ∃ n, n < 7 ^ k ∧ dgs k n 0 = a ∧ dgs k n 1 = b ∧ dgs k n 2 = c := by
    unfold bx at x0 x1 x2
    have : k = 0 ∨ k = 1 ∨ k = 2 ∨ k = 3 := by omega
    rcases this with h | h | h | h <;> subst h
    · exact ⟨0, by decide, by simp [dgs]; split at x0 <;> omega, by simp [dgs]; split at x1 <;> omega, by simp [dgs]; split at x2 <;> omega⟩
    · exact ⟨a, by split at x0 <;> omega, by simp [dgs]; split at x0 <;> omega, by simp [dgs]; split at x1 <;> omega, by simp [dgs]; split at x2 <;> omega⟩
    · refine ⟨7 * a + b, ?_, ?_, ?_, ?_⟩
      · split at x0 <;> split at x1 <;> omega
      · simp [dgs]; split at x0 <;> split at x1 <;> omega
      · simp [dgs]; split at x0 <;> split at x1 <;> omega
      · simp [dgs]; split at x2 <;> omega
    · refine ⟨49 * a + 7 * b + c, ?_, ?_, ?_, ?_⟩
      · split at x0 <;> split at x1 <;> split at x2 <;> omega
      · simp [dgs]; split at x0 <;> split at x1 <;> split at x2 <;> omega
      · simp [dgs]; split at x0 <;> split at x1 <;> split at x2 <;> omega
      · simp [dgs]; split at x0 <;> split at x1 <;> split at x2 <;> omega
  obtain ⟨n, n1, n2, n3, n4⟩ := main
  refine ⟨n, n1, decide_eq_true ?_, n2, n3, n4⟩
  by_cases h : 3 ≤ sp
  · exact Or.inl h
  · refine Or.inr ?_
    unfold bx at x0 x1 x2
    have : sp = 0 ∨ sp = 1 ∨ sp = 2 := by omega
    rcases this with h | h | h <;> subst h
    · rw [n2]; rw [if_neg (by omega)] at x0; omega
    · rw [n3]; rw [if_neg (by omega)] at x1; omega
    · rw [n4]; rw [if_neg (by omega)] at x2; omega
theorem tu_lex {k n m : Nat} (hk : k ≤ 3) (hn : n < 7 ^ k) (hm : m < 7 ^ k) (h : n ≤ m) : ¬ (dgs k m 0 < dgs k n 0 ∨ (dgs k m 0 = dgs k n 0 ∧ dgs k m 1 < dgs k n 1)) := by
  have : k = 0 ∨ k = 1 ∨ k = 2 ∨ k = 3 := by omega
  rcases this with e | e | e | e <;> subst e <;> simp [dgs] <;> omega
theorem meet_none {k sp : Nat} {P : Nat → Nat → Nat → Bool} {R : Nat → Bool} {b : Option Nat} (he : ∀ n, R n = P (dgs k n 0) (dgs k n 1) (dgs k n 2)) (hc : ∀ a b c, boxP k sp a b c → ¬ P a b c = true) (hb : BOk k sp (7 ^ k) R b) : b = none := by
  cases b with
  | none => rfl
  | some c =>
    obtain ⟨h1, h2, h3, -⟩ := hb
    rw [he] at h3
    exact absurd h3 (hc _ _ _ (tu_box h2))
theorem meet_some {k sp a b c : Nat} {P : Nat → Nat → Nat → Bool} {R : Nat → Bool} {o : Option Nat} (hk : k ≤ 3) (he : ∀ n, R n = P (dgs k n 0) (dgs k n 1) (dgs k n 2)) (hx : boxP k sp a b c) (hP : P a b c = true) (hn : none3 k sp (a + b + c) a b P) (hb : BOk k sp (7 ^ k) R o) : ∃ d, o = some d ∧ dgs k d 0 = a ∧ dgs k d 1 = b ∧ dgs k d 2 = c ∧ dsm k d = a + b + c := by
  obtain ⟨n, n1, n2, n3, n4, n5⟩ := tu_code hk hx
  have hR : R n = true := by rw [he, n3, n4, n5]; exact hP
  cases o with
  | none => exact absurd hR (hb n n1 n2)
  | some d =>
    refine ⟨d, rfl, ?_⟩
    obtain ⟨h1, h2, h3, h4⟩ := hb
    rw [he] at h3
    have q := h4 n n1 n2 hR
    have s1 := tu_sum (k := k) (n := n) hk
    have s2 := tu_sum (k := k) (n := d) hk
    have e : ¬ ealy (a + b + c) a b (dgs k d 0) (dgs k d 1) (dgs k d 2) := fun z => hn _ _ _ (tu_box h2) z h3
    unfold ealy at e
    have lx : d ≤ n → ¬ (dgs k n 0 < dgs k d 0 ∨ (dgs k n 0 = dgs k d 0 ∧ dgs k n 1 < dgs k d 1)) := fun h => tu_lex hk h1 n1 h
    rcases q with q | ⟨q1, q2⟩
    · exfalso; omega
    · have := lx q2
      omega
theorem st3_d {k n : Nat} : ∀ i, i < 3 → st3 (dgs k n 0) (dgs k n 1) (dgs k n 2) i = dgs k n i := fun i hi => by
  have : i = 0 ∨ i = 1 ∨ i = 2 := by omega
  rcases this with h | h | h <;> subst h <;> rfl
/-! those that lack are told in order -/
theorem lkF_up {G B : Blk} : ∀ (n i : Nat) (L : List (Nat × Int32)), (∀ q ∈ L, q.1 < i) → L.Pairwise (fun p q => p.1 < q.1) → (lkF G B i n L).Pairwise (fun p q => p.1 < q.1)
  | 0, _, _, _, h => h
  | n + 1, i, L, hi, h => by
    simp only [lkF]
    split
    · exact h
    · refine lkF_up n (i + 1) _ (fun q hq => ?_) ?_
      · split at hq
        · rcases List.mem_append.mp hq with k | k
          · have := hi q k; omega
          · rw [List.mem_singleton.mp k]; show i < i + 1; omega
        · have := hi q hq; omega
      · split
        · refine List.pairwise_append.mpr ⟨h, List.pairwise_singleton _ _, fun p hp q hq => ?_⟩
          rw [List.mem_singleton.mp hq]; exact hi p hp
        · exact h
theorem lW_up {G B : Blk} {i j : Nat} (hij : i < j) (hj : j < (lkL G B).length) : lW (lkL G B) i < lW (lkL G B) j := by
  have h := List.pairwise_iff_getElem.mp (lkF_up (G := G) (B := B) (nW G) 0 [] (fun q hq => by simp at hq) List.Pairwise.nil) i j (by show i < (lkL G B).length; omega) hj hij
  unfold lW
  rw [List.getD_eq_getElem?_getD, List.getD_eq_getElem?_getD, List.getElem?_eq_getElem hj, List.getElem?_eq_getElem (by omega)]
  exact h
/-- who starts when: 0 for others -/
def soF (L : List (Nat × Int32)) (st : Nat → Nat) (w : Int32) : Nat → Nat → Int32
  | _, 0 => 0
  | i, n + 1 => if nI (lW L i) = w then nI (st i) else soF L st w (i + 1) n
section
variable {T T' : Th} {x y : Nat} {M M' : Mm}
theorem l_startOf {p : Nat} {L : List (Nat × Int32)} {sp : Nat} {st : Nat → Nat} {w : Int32} {Q : Int32 → Mm → Prop} (h3 : isX3 T p) (hp : PlC M p L sp) (hl : L.length ≤ 3) (hs : StP M p L st) : ∀ (n i : Nat), i + n = L.length → Q (soF L st w i n) M → WP T mX3_startOf 2 [(0, .ref p), (1, .int w), (2, .int (nI i))] [] M (qi Q) := by
  intro n
  induction n with
  | zero =>
    intro i hi hq
    refine sg_X3_startOf_2 h3 ?_
    rw [hp.1]
    exact ⟨fun _ => hq, fun z => absurd (nI_le (by omega) (by omega)) z⟩
  | succ n ih =>
    intro i hi hq
    refine sg_X3_startOf_2 h3 ?_
    simp only [soF] at hq
    rw [hp.1, cl_nI (by omega), (hp.2.2 i (by omega)).1, hs i (by omega), nI_1]
    simp only [forall_eq]
    refine ⟨fun z => absurd z (nI_ge (by omega) (by omega)), fun _ => ⟨fun z => absurd z (nI_ge (b := 3) (by omega) (by omega)), fun _ => ⟨vp_nI (by omega) (by decide), fun z => ih (i + 1) (by omega) (by rw [if_neg z] at hq; exact hq), fun z => ⟨vp_nI (by omega) (by decide), by rw [if_pos z] at hq; exact hq⟩⟩⟩⟩
theorem l_psum {p : Nat} {L : List (Nat × Int32)} {sp : Nat} {st : Nat → Nat} {Q : Int32 → Mm → Prop} (h3 : isX3 T p) (hp : PlC M p L sp) (hl : L.length ≤ 3) (hs : StP M p L st) : ∀ (n i a : Nat), i + n = L.length → Q (nI (foldF (fun a i => a + st i) i n a)) M → WP T mX3_sum 4 [(0, .ref p), (1, .int (nI a)), (2, .int (nI i))] [] M (qi Q) := by
  intro n
  induction n with
  | zero =>
    intro i a hi hq
    refine sg_X3_sum_4 h3 ?_
    rw [hp.1]
    simp only [foldF] at hq
    exact ⟨fun _ => hq, fun z => absurd (nI_le (by omega) (by omega)) z⟩
  | succ n ih =>
    intro i a hi hq
    refine sg_X3_sum_4 h3 ?_
    simp only [foldF] at hq
    rw [hp.1, cl_nI (by omega), hs i (by omega), nI_1, nI_add]
    simp only [forall_eq]
    exact ⟨fun z => absurd z (nI_ge (by omega) (by omega)), fun _ => ⟨fun z => absurd z (nI_ge (b := 3) (by omega) (by omega)), fun _ => ⟨vp_nI (by omega) (by decide), ih (i + 1) _ (by omega) hq⟩⟩⟩
theorem sum_box {k sp a b c : Nat} (hk : k ≤ 3) (hx : boxP k sp a b c) : foldF (fun s i => s + st3 a b c i) 0 k 0 = a + b + c := by
  obtain ⟨x0, x1, x2⟩ := hx
  unfold bx at x0 x1 x2
  have : k = 0 ∨ k = 1 ∨ k = 2 ∨ k = 3 := by omega
  rcases this with e | e | e | e <;> subst e <;> simp [foldF, st3] <;> (first | (rw [if_neg (by omega)] at x0 x1 x2; omega) | (rw [if_neg (by omega)] at x1 x2; omega) | (rw [if_neg (by omega)] at x2; omega) | omega)
/-- the reference looks all through: the last that is it, which is the first -/
theorem l_rstarts {G B : Blk} {st : Nat → Nat} {w : Int32} {Q : Int32 → Mm → Prop} (h7 : isX7 T y) (hl : RLk M y (lkL G B)) (hs : ∀ i, i < (lkL G B).length → M.1 (y + 23) i = nI (st i)) :
    ∀ (n i : Nat) (v : Int32), i + n = (lkL G B).length → (∀ j, i ≤ j → j < (lkL G B).length → nI (lW (lkL G B) j) = w → v = 0) → Q (if v = 0 then soF (lkL G B) st w i n else v) M → WP T mX7_starts 40 [(0, .ref y), (1, .int w), (3, .int v), (4, .int (nI i))] [] M (qi Q) := by
  have h3 := (lkL_in G B).1
  have h5 := nW_le G
  intro n
  induction n with
  | zero =>
    intro i v hi hv hq
    refine sg_X7_starts_40 h7 ?_
    rw [hl.1]
    refine ⟨fun _ => ?_, fun z => absurd (nI_le (by omega) (by omega)) z⟩
    simp only [soF] at hq
    by_cases e : v = 0
    · rw [if_pos e] at hq; rw [e]; exact hq
    · rw [if_neg e] at hq; exact hq
  | succ n ih =>
    intro i v hi hv hq
    refine sg_X7_starts_40 h7 ?_
    simp only [soF] at hq
    rw [hl.1, cl_nI (by omega), (hl.2 i (by omega)).1, hs i (by omega), nI_1]
    simp only [forall_eq]
    refine ⟨fun z => absurd z (nI_ge (by omega) (by omega)), fun _ => ⟨vp_nI (by omega) (by decide), fun z => ih (i + 1) v (by omega) (fun j h1 h2 h4 => hv j (by omega) h2 h4) (by rw [if_neg z] at hq; exact hq), fun z => ⟨vp_nI (by omega) (by decide), ih (i + 1) _ (by omega) (fun j h1 h2 h4 => ?_) ?_⟩⟩⟩
    · have hu := lW_up (G := G) (B := B) (i := i) (j := j) (by omega) h2
      have l1 := lW_in (G := G) (B := B) h2
      rw [← z, nI_eq (by omega) (by omega)] at h4
      omega
    · rw [if_pos z, if_pos (hv i (by omega) (by omega) z)] at hq
      have hnone : ∀ (n2 i2 : Nat), i < i2 → i2 + n2 = (lkL G B).length → soF (lkL G B) st w i2 n2 = 0 := by
        intro n2
        induction n2 with
        | zero => intro i2 _ _; rfl
        | succ n2 ih2 =>
          intro i2 h1 h2
          simp only [soF]
          have hu := lW_up (G := G) (B := B) (i := i) (j := i2) h1 (by omega)
          have l1 := lW_in (G := G) (B := B) (i := i2) (by omega)
          rw [if_neg (by rw [← z, nI_eq (by omega) (by omega)]; omega)]
          exact ih2 (i2 + 1) (by omega) (by omega)
      by_cases e : nI (st i) = 0
      · rw [if_pos e, hnone n (i + 1) (by omega) (by omega)]; rw [e] at hq; exact hq
      · rw [if_neg e]; exact hq
theorem so_cong {L : List (Nat × Int32)} {st st' : Nat → Nat} {w : Int32} (h : ∀ i, i < L.length → st' i = st i) : ∀ (n i : Nat), i + n ≤ L.length → soF L st' w i n = soF L st w i n
  | 0, _, _ => rfl
  | n + 1, i, hn => by
    simp only [soF]
    rw [h i (by omega), so_cong h n (i + 1) (by omega)]
theorem e_starts {w : Int32} (hL : LayC T x) (h7 : isX7 T' y) (hI : Inv x y M M') : WPi T mX6_starts [.ref x, .int w] M (fun r N => WPi T' mX7_starts [.ref y, .int w] M' (fun r' N' => r' = r ∧ Inv x y N N')) := by
  have hI' := hI
  obtain ⟨G, F, S, I, tn, tb, tr, hC, hR, hS⟩ := hI
  have h5 := nW_le G
  have hW := hS.1
  have hg := hC.isG hL
  have hk3 := (lkL_in G S.1).1
  obtain ⟨⟨t, ht, hwb⟩, hws⟩ := hS.2.2.2.1.2.1
  have main : (w = -1 ∨ (¬ w = -1 ∧ hasWg G w = true)) → WP T mX6_starts 18 [(0, .ref x), (1, .int w)] [] M (qi (fun r N => WPi T' mX7_starts [.ref y, .int w] M' (fun r' N' => r' = r ∧ Inv x y N N'))) := by
    intro hok
    refine sg_X6_starts_18 hL.1 ?_
    simp only [forall_eq]
    refine ⟨hg, c_gather hL hC (fun N hf hp => ?_)⟩
    have he : ∀ n, safeF G (lkL G S.1) 5 (dgs (lkL G S.1).length n) (S.1 0 1) 40 0 S.1 = safeF G (lkL G S.1) 5 (st3 (dgs (lkL G S.1).length n 0) (dgs (lkL G S.1).length n 1) (dgs (lkL G S.1).length n 2)) (S.1 0 1) 40 0 S.1 := fun n => (safe_cong (fun i hi => st3_d i (by omega)) 40 0 S.1).symm
    have ref : ∀ (Q' : Int32 → Mm → Prop), (∀ N b, FrR y M' N → RLk N y (lkL G S.1) → (∀ c, b = some c → ∀ i, i < (lkL G S.1).length → N.1 (y + 23) i = nI (dgs (lkL G S.1).length c i)) → BOk (lkL G S.1).length 5 (7 ^ (lkL G S.1).length) (fun n => safeF G (lkL G S.1) 5 (dgs (lkL G S.1).length n) (S.1 0 1) 40 0 S.1) b → ((bI (lkL G S.1).length b = (-9) → Q' (bI (lkL G S.1).length b) N) ∧ (¬ bI (lkL G S.1).length b = (-9) → (¬ w = (-1) → WP T' mX7_starts 40 [(0, .ref y), (1, .int w), (3, .int 0), (4, .int 0)] [] N (qi Q')) ∧ (w = (-1) → Q' (bI (lkL G S.1).length b) N)))) → WPi T' mX7_starts [.ref y, .int w] M' Q' := by
      intro Q' hq
      have inner := sg_X7_starts_15 (Q := Q') (x1 := w) h7 (r_findStarts (M := M') (sp := 5) (u := t) h7 hR.1 hW hR.2.1.2.2 (Or.inr (by decide)) hR.2.2.2.1.1 hwb ht (fun N b f1 f2 f3 f4 => hq N b f1 f2 f3 f4))
      refine WPM.of (by decide) rfl (Nat.le_of_ble_eq_true rfl) (sg_X7_starts_0 h7 ⟨fun _ => inner, fun z => r_isWagon h7 hR.1 hW ?_⟩)
      rcases hok with h | h
      · exact absurd h z
      · rw [h.2]; exact ⟨fun _ => inner, fun z => absurd z (by decide)⟩
    refine c_findStarts (L := lkL G S.1) (sp := 5) hL (hC.frame hf) hp hk3 (fun i hi => by have := lW_in hi; omega) ⟨fun N2 f2 p2 hnone => ?_, fun N2 a b c f2 p2 hst hbx hP hn3 => ?_⟩
    · refine ⟨fun z => absurd rfl z, fun _ => ref _ (fun N' b g1 g2 g3 g4 => ?_)⟩
      have hb := meet_none he hnone g4
      subst hb
      have hI2 : Inv x y N2 N' := ⟨G, F, S, I, tn, tb, tr, (hC.frame hf).frame f2, hR.frame g1, hS⟩
      exact ⟨fun _ => ⟨rfl, hI2⟩, fun z => absurd rfl z⟩
    · have hst' : StP N2 (x + 3) (lkL G S.1) (st3 a b c) := fun i hi => hst i (by omega)
      have ref2 : ∀ N' o, FrR y M' N' → RLk N' y (lkL G S.1) → (∀ c, o = some c → ∀ i, i < (lkL G S.1).length → N'.1 (y + 23) i = nI (dgs (lkL G S.1).length c i)) → BOk (lkL G S.1).length 5 (7 ^ (lkL G S.1).length) (fun n => safeF G (lkL G S.1) 5 (dgs (lkL G S.1).length n) (S.1 0 1) 40 0 S.1) o → Inv x y N2 N' ∧ bI (lkL G S.1).length o = nI (a + b + c) ∧ ¬ nI (a + b + c) = -9 ∧ ∀ i, i < (lkL G S.1).length → N'.1 (y + 23) i = nI (st3 a b c i) := by
        intro N' o g1 g2 g3 g4
        obtain ⟨d, d1, d2, d3, d4, d5⟩ := meet_some hk3 he hbx hP hn3 g4
        subst d1
        refine ⟨⟨G, F, S, I, tn, tb, tr, (hC.frame hf).frame f2, hR.frame g1, hS⟩, ?_, ?_, fun i hi => ?_⟩
        · show nI (dsm _ d) = _
          rw [d5]
        · intro h
          have hb6 := dsm_le (lkL G S.1).length d
          have h0 := nI_pos' (n := a + b + c) (by omega)
          rw [h] at h0
          exact absurd h0 (by decide)
        · rw [g3 d rfl i hi, ← st3_d i (by omega), d2, d3, d4]
      refine ⟨fun _ => ⟨fun z => ?_, fun z => ?_⟩, fun z => absurd z (by decide)⟩
      · refine WPM.of (by decide) rfl (Nat.le_of_ble_eq_true rfl) (sg_X3_startOf_0 hL.pl (l_startOf (st := st3 a b c) hL.pl p2 hk3 hst' (lkL G S.1).length 0 (by omega) ?_))
        refine ref _ (fun N' o g1 g2 g3 g4 => ?_)
        obtain ⟨hI2, e1, e2, e3⟩ := ref2 N' o g1 g2 g3 g4
        rw [e1]
        refine ⟨fun z2 => absurd z2 e2, fun _ => ⟨fun _ => ?_, fun z2 => absurd z2 z⟩⟩
        exact l_rstarts (G := G) (B := S.1) (st := st3 a b c) h7 g2 e3 (lkL G S.1).length 0 0 (by omega) (fun _ _ _ _ => rfl) ⟨if_pos rfl, hI2⟩
      · refine WPM.of (by decide) rfl (Nat.le_of_ble_eq_true rfl) (sg_X3_sum_0 hL.pl (l_psum (st := st3 a b c) hL.pl p2 hk3 hst' (lkL G S.1).length 0 0 (by omega) ?_))
        rw [sum_box hk3 hbx]
        refine ref _ (fun N' o g1 g2 g3 g4 => ?_)
        obtain ⟨hI2, e1, e2, e3⟩ := ref2 N' o g1 g2 g3 g4
        rw [e1]
        exact ⟨fun z2 => absurd z2 e2, fun _ => ⟨fun z2 => absurd z z2, fun _ => ⟨rfl, hI2⟩⟩⟩
  refine WPM.of (by decide) rfl (Nat.le_of_ble_eq_true rfl) (sg_X6_starts_0 hL.1 ⟨fun z => main (Or.inl z), fun z => ?_⟩)
  simp only [forall_eq]
  refine ⟨hg, c_hasWagon hg hC.2.1 ?_⟩
  by_cases hw : hasWg G w = true
  · rw [hw]
    exact ⟨fun _ => main (Or.inr ⟨z, hw⟩), fun z => absurd z (by decide)⟩
  · rw [show hasWg G w = false by simpa using hw]
    refine ⟨fun z => absurd rfl z, fun _ => ?_⟩
    refine WPM.of (by decide) rfl (Nat.le_of_ble_eq_true rfl) (sg_X7_starts_0 h7 ⟨fun z2 => absurd z2 z, fun _ => r_isWagon h7 hR.1 hW ?_⟩)
    rw [show hasWg G w = false by simpa using hw]
    exact ⟨fun z => absurd rfl z, fun _ => ⟨rfl, hI'⟩⟩
end
