/-! THE REFERENCE's SEARCH over codes -/
def dgs : Nat → Nat → Nat → Nat
  | 0, _, _ => 0
  | i + 1, v, j => if j = i then v % 7 else dgs i (v / 7) j
def dsm : Nat → Nat → Nat
  | 0, _ => 0
  | i + 1, v => v % 7 + dsm i (v / 7)
theorem dgs_le : ∀ (i v j : Nat), dgs i v j ≤ 6
  | 0, _, _ => by simp [dgs]
  | i + 1, v, j => by
    simp only [dgs]
    split
    · omega
    · exact dgs_le i (v / 7) j
theorem dsm_le : ∀ (i v : Nat), dsm i v ≤ 6 * i
  | 0, _ => by simp [dsm]
  | i + 1, v => by
    simp only [dsm]
    have := dsm_le i (v / 7)
    omega
theorem btI_lt {sp : Nat} (h : ¬ btI sp = -9) : sp < 3 := by
  by_cases q : sp < 3
  · exact q
  · exact absurd (show btI sp = -9 from if_neg q) h
def bI (k : Nat) : Option Nat → Int32
  | none => -9
  | some c => nI (dsm k c)
def mayC (k sp n : Nat) : Bool := decide (3 ≤ sp ∨ dgs k n sp = 0)
def BOk (k sp n : Nat) (P : Nat → Bool) : Option Nat → Prop
  | none => ∀ m, m < n → mayC k sp m = true → ¬ P m = true
  | some c => c < n ∧ mayC k sp c = true ∧ P c = true ∧ ∀ m, m < n → mayC k sp m = true → P m = true → dsm k c < dsm k m ∨ (dsm k c = dsm k m ∧ c ≤ m)
theorem BOk.skip {k sp n : Nat} {P : Nat → Bool} : ∀ {b : Option Nat}, BOk k sp n P b → (mayC k sp n = true → P n = true → ∃ c, b = some c ∧ dsm k c ≤ dsm k n) → BOk k sp (n + 1) P b
  | none, h, h2 => fun m hm h3 h4 => by
    by_cases e : m = n
    · subst e
      obtain ⟨c, c1, -⟩ := h2 h3 h4
      cases c1
    · exact h m (by omega) h3 h4
  | some c, h, h2 => by
    refine ⟨by have := h.1; omega, h.2.1, h.2.2.1, fun m hm h3 h4 => ?_⟩
    by_cases e : m = n
    · subst e
      obtain ⟨d, d1, d2⟩ := h2 h3 h4
      cases d1
      have := h.1
      omega
    · exact h.2.2.2 m (by omega) h3 h4
theorem BOk.take {k sp n : Nat} {P : Nat → Bool} : ∀ {b : Option Nat}, BOk k sp n P b → mayC k sp n = true → P n = true → (∀ c, b = some c → dsm k n < dsm k c) → BOk k sp (n + 1) P (some n)
  | none, h, h1, h2, _ => by
    refine ⟨by omega, h1, h2, fun m hm h3 h4 => ?_⟩
    by_cases e : m = n
    · subst e; omega
    · exact absurd h4 (h m (by omega) h3)
  | some c, h, h1, h2, hc => by
    refine ⟨by omega, h1, h2, fun m hm h3 h4 => ?_⟩
    by_cases e : m = n
    · subst e; omega
    · have a := h.2.2.2 m (by omega) h3 h4
      have b := hc c rfl
      omega
section
variable {T T' : Th} {x y : Nat} {M M' : Mm}
theorem l_code {k n sp : Nat} {x2 x3 : Int32} {Q : Int32 → Mm → Prop} (h7 : isX7 T y) (hk : k ≤ 3) (hsp : sp < k ∨ 3 ≤ sp) :
    ∀ (i v s : Nat) (N : Mm), i ≤ k → v < 2000 → (∀ N', (∀ j, j < i → N'.1 (y + 22) j = nI (dgs i v j)) → (∀ j, i ≤ j → N'.1 (y + 22) j = N.1 (y + 22) j) → (∀ a, a ≠ y + 22 → N'.1 a = N.1 a) → N'.2 = N.2 → ((sp < 3 → ∃ q, q ≤ 6 ∧ N'.1 (y + 22) sp = nI q) ∧ ∀ s0 : Int32, s0 = b2i (decide (3 ≤ sp ∨ N'.1 (y + 22) sp = 0)) → WP T mX7_findStarts 118 [(0, .ref y), (1, .int (btI sp)), (2, .int x2), (3, .int x3), (4, .int (nI n)), (6, .int (nI (s + dsm i v)))] [.int s0] N' (qi Q))) → WP T mX7_findStarts 56 [(0, .ref y), (1, .int (btI sp)), (2, .int x2), (3, .int x3), (4, .int (nI n)), (5, .int (nI v)), (6, .int (nI s)), (7, .int (nI i + (-1)))] [] N (qi Q) := by
  intro i
  induction i with
  | zero =>
    intro v s N hi hv hq
    obtain ⟨q1, q2⟩ := hq N (fun j hj => by omega) (fun _ _ => rfl) (fun _ _ => rfl) rfl
    refine sg_X7_findStarts_56 h7 ⟨fun _ => ⟨fun z => q2 1 ?_, fun z => ⟨?_, fun z2 => q2 0 ?_, fun z2 => q2 1 ?_⟩⟩, fun z => absurd (by decide) z⟩
    · have : 3 ≤ sp := by
        by_cases h : 3 ≤ sp
        · exact h
        · unfold btI at z; rw [if_pos (by omega)] at z; exact absurd z (m9_m1 (by omega)).1
      simp [this, b2i]
    · have h3 := btI_lt z
      rw [show btI sp = nI sp from if_pos h3]; exact vp_nI h3 (by decide)
    · have h3 := btI_lt z
      rw [show btI sp = nI sp from if_pos h3, cl_nI (by omega)] at z2
      simp [z2, b2i, h3]
    · have h3 := btI_lt z
      rw [show btI sp = nI sp from if_pos h3, cl_nI (by omega)] at z2
      simp [z2, b2i]
  | succ i ih =>
    intro v s N hi hv hq
    rw [nI_pm]
    refine sg_X7_findStarts_56 h7 ⟨fun z => absurd z (nI_pos (by omega)), fun _ => ?_⟩
    have e1 : nI v - nI v / 7 * 7 = nI (v % 7) := pk_rem (d := 7) (by omega) (by omega) (by omega)
    have e2 : nI v / 7 = nI (v / 7) := pk_div (d := 7) (by omega) (by omega) (by omega)
    rw [cl_nI (by omega), e1, e2]
    simp only [forall_eq]
    have e3 : (sI N (y + 22) i (nI (v % 7))).1 (y + 22) i = nI (v % 7) := by simp [sI]
    rw [e3, nI_add]
    refine ⟨vp_nI (by omega) (by decide), vp_nI (by omega) (by decide), ih (v / 7) (s + v % 7) _ (by omega) (by omega) (fun N' n1 n2 n3 n4 => ?_)⟩
    simp only [dsm] at hq
    rw [show s + v % 7 + dsm i (v / 7) = s + (v % 7 + dsm i (v / 7)) by omega]
    refine hq N' (fun j hj => ?_) (fun j hj => ?_) (fun a ha => ?_) n4
    · simp only [dgs]
      by_cases e : j = i
      · subst e; rw [if_pos rfl, n2 j (Nat.le_refl _)]; exact e3
      · rw [if_neg e]; exact n1 j (by omega)
    · rw [n2 j (by omega)]; simp only [sI]; rw [if_neg (by omega)]
    · rw [n3 a ha]; funext k; simp only [sI]; rw [if_neg (by omega)]
theorem l_copyBest {k n : Nat} {x1 x2 x3 : Int32} {Q : Int32 → Mm → Prop} (h7 : isX7 T y) (hk : k ≤ 3) :
    ∀ (m i : Nat) (N : Mm), i + m = k → N.1 y 31 = nI k → (∀ N', (∀ j, i ≤ j → j < k → N'.1 (y + 23) j = N.1 (y + 22) j) → (∀ j, j < i → N'.1 (y + 23) j = N.1 (y + 23) j) → (∀ a, a ≠ y + 23 → N'.1 a = N.1 a) → N'.2 = N.2 → WP T mX7_findStarts 35 [(0, .ref y), (1, .int x1), (2, .int x2), (3, .int x3), (4, .int (nI (n + 1)))] [] N' (qi Q)) → WP T mX7_findStarts 151 [(0, .ref y), (1, .int x1), (2, .int x2), (3, .int x3), (4, .int (nI n)), (8, .int (nI i))] [] N (qi Q) := by
  intro m
  induction m with
  | zero =>
    intro i N hi h31 hq
    refine sg_X7_findStarts_151 h7 ?_
    rw [h31, nI_1 n]
    simp only [forall_eq]
    exact ⟨fun _ => hq N (fun j h1 h2 => by omega) (fun _ _ => rfl) (fun _ _ => rfl) rfl, fun z => absurd (nI_le (by omega) (by omega)) z⟩
  | succ m ih =>
    intro i N hi h31 hq
    refine sg_X7_findStarts_151 h7 ?_
    rw [h31, nI_1 i, cl_nI (by omega)]
    simp only [forall_eq]
    refine ⟨fun z => absurd z (nI_ge (by omega) (by omega)), fun _ => ⟨vp_nI (by omega) (by decide), vp_nI (by omega) (by decide), ih (i + 1) _ (by omega) ?_ (fun N' n1 n2 n3 n4 => hq N' (fun j h1 h2 => ?_) (fun j hj => ?_) (fun a ha => ?_) n4)⟩⟩
    · simp only [sI]; rw [if_neg (by omega)]; exact h31
    · by_cases e : j = i
      · subst e; rw [n2 j (by omega)]; simp [sI]
      · rw [n1 j (by omega) h2]; simp only [sI]; rw [if_neg (by omega)]
    · rw [n2 j (by omega)]; simp only [sI]; rw [if_neg (by omega)]
    · rw [n3 a ha]; funext l; simp only [sI]; rw [if_neg (by omega)]
theorem FrP.o {c : Nat} {M N : Mm} (hc : 22 ≤ c) (h : ∀ a, a ≠ y + c → N.1 a = M.1 a) (h2 : N.2 = M.2) : FrP y M N := ⟨fun d h1 h2 => h _ (by omega), by rw [h y (by omega)], by rw [h y (by omega)], h2⟩
theorem l_codes {G B : Blk} {L : List (Nat × Int32)} {k sp u : Nat} {Q : Int32 → Mm → Prop} (h7 : isX7 T y) (hG : RG M y G) (hW : WG G) (hk : L.length = k) (hk3 : k ≤ 3) (hl : RLk M y L) (hw : ∀ i, i < L.length → lW L i < nW G) (hsp : sp < k ∨ 3 ≤ sp) (hr : Rw (nW G) B (M.1 (y + 17))) (hb : Wb (nW G) B u) (hu : u ≤ 999)
    (hq : ∀ N b, FrP y M N → (∀ c, b = some c → ∀ i, i < k → N.1 (y + 23) i = nI (dgs k c i)) → BOk k sp (7 ^ k) (fun n => safeF G L sp (dgs k n) (B 0 1) 40 0 B) b → Q (bI k b) N) :
    ∀ (m n : Nat) (b : Option Nat) (N : Mm), n + m = 7 ^ k → FrP y M N → (∀ c, b = some c → ∀ i, i < k → N.1 (y + 23) i = nI (dgs k c i)) → BOk k sp n (fun n => safeF G L sp (dgs k n) (B 0 1) 40 0 B) b → WP T mX7_findStarts 35 [(0, .ref y), (1, .int (btI sp)), (2, .int (bI k b)), (3, .int (nI (7 ^ k))), (4, .int (nI n))] [] N (qi Q) := by
  have h343 : 7 ^ k ≤ 343 := Nat.pow_le_pow_right (n := 7) (j := 3) (by decide) hk3
  intro m
  induction m with
  | zero =>
    intro n b N hn hf hc ho
    refine sg_X7_findStarts_35 h7 ⟨fun _ => hq N b hf hc ?_, fun z => absurd (nI_le (by omega) (by omega)) z⟩
    rw [show n = 7 ^ k by omega] at ho; exact ho
  | succ m ih =>
    intro n b N hn hf hc ho
    have h31 : N.1 y 31 = nI k := by rw [hf.2.1, hl.1, hk]
    refine sg_X7_findStarts_35 h7 ⟨fun z => absurd z (nI_ge (by omega) (by omega)), fun _ => ?_⟩
    rw [h31, show nI k - 1 = nI k + (-1) by grind]
    simp only [forall_eq]
    refine l_code h7 hk3 hsp k n 0 N (Nat.le_refl _) (by omega) (fun N' n1 n2 n3 n4 => ?_)
    refine ⟨fun h => ⟨dgs k n sp, dgs_le _ _ _, n1 sp (by omega)⟩, ?_⟩
    have hf1 : FrP y M N' := hf.trans (FrP.o (c := 22) (by decide) n3 n4)
    have hc1 : ∀ c, b = some c → ∀ i, i < k → N'.1 (y + 23) i = nI (dgs k c i) := fun c e i hi => by rw [n3 _ (by omega)]; exact hc c e i hi
    have hm : decide (3 ≤ sp ∨ N'.1 (y + 22) sp = 0) = mayC k sp n := by
      unfold mayC
      rcases hsp with h | h
      · rw [n1 sp h]
        have hz : nI (dgs k n sp) = 0 ↔ dgs k n sp = 0 := nI_eq (b := 0) (by have := dgs_le k n sp; omega) (by omega)
        simp only [hz]
      · simp [h]
    rw [hm]
    simp only [forall_eq]
    have hN : ∀ N2, FrP y N' N2 → (∀ c, b = some c → ∀ i, i < k → N2.1 (y + 23) i = nI (dgs k c i)) → (mayC k sp n = true → safeF G L sp (dgs k n) (B 0 1) 40 0 B = true → ∃ c, b = some c ∧ dsm k c ≤ dsm k n) → WP T mX7_findStarts 35 [(0, .ref y), (1, .int (btI sp)), (2, .int (bI k b)), (3, .int (nI (7 ^ k))), (4, .int (nI (n + 1)))] [] N2 (qi Q) :=
      fun N2 f2 g2 h2 => ih (n + 1) b N2 (by omega) (hf1.trans f2) g2 (BOk.skip ho h2)
    have hs18 := dsm_le k n
    have rT23 : ∀ r wt, (rT N' y r wt).1 (y + 23) = N'.1 (y + 23) := fun r wt => rT_a 23 (by decide) (by decide)
    have well : mayC k sp n = true → (∀ c, b = some c → dsm k n < dsm k c) → WPi T mX7_isWell [.ref y, .int (btI sp)] N' (fun v2 M1 => (v2 = 0 → ∀ v3 : Int32, v3 = nI n + 1 → WP T mX7_findStarts 35 [(0, .ref y), (1, .int (btI sp)), (2, .int (bI k b)), (3, .int (nI (7 ^ k))), (4, .int v3)] [] M1 (qi Q)) ∧ (¬ v2 = 0 → WP T mX7_findStarts 151 [(0, .ref y), (1, .int (btI sp)), (2, .int (nI (0 + dsm k n))), (3, .int (nI (7 ^ k))), (4, .int (nI n)), (8, .int 0)] [] M1 (qi Q))) := by
      intro hmay hless
      refine r_isWell (G := G) (B := B) (L := L) (u := u) (st := dgs k n) h7 (hG.frame hf1.R) hW (hl.kept hf1) (by omega) hw (fun i hi => ⟨n1 i (by omega), by have := dgs_le k n i; omega⟩) (by rw [hf1.1 17 (by decide) (by decide)]; exact hr) hb hu (fun r' wt' => ?_)
      rw [nI_1 n]
      simp only [forall_eq]
      by_cases hs : safeF G L sp (dgs k n) (B 0 1) 40 0 B = true
      · rw [hs]
        refine ⟨fun z => absurd z (by decide), fun _ => ?_⟩
        refine l_copyBest h7 hk3 k 0 _ (by omega) (by rw [rT_f (by decide), hf1.2.1, hl.1, hk]) (fun N2 p1 p2 p3 p4 => ?_)
        rw [Nat.zero_add]
        refine ih (n + 1) (some n) N2 (by omega) ((hf1.trans FrP.t).trans (FrP.o (c := 23) (by decide) p3 p4)) (fun c e i hi => ?_) (BOk.take ho hmay hs hless)
        cases e
        rw [p1 i (by omega) hi, rT_a 22 (by decide) (by decide)]; exact n1 i hi
      · rw [show safeF G L sp (dgs k n) (B 0 1) 40 0 B = false by simpa using hs]
        exact ⟨fun _ => hN _ FrP.t (fun c e i hi => by rw [rT23]; exact hc1 c e i hi) (fun _ h => absurd h hs), fun z => absurd rfl z⟩
    refine sg_X7_findStarts_118 h7 ⟨fun z => ?_, fun z => ?_⟩
    · rw [nI_1]
      simp only [forall_eq]
      refine hN N' (FrP.rf _ _) hc1 (fun h => ?_)
      rw [h] at z; exact absurd z (by decide)
    · have hmay : mayC k sp n = true := by
        cases h : mayC k sp n
        · rw [h] at z; exact absurd rfl z
        · rfl
      cases b with
      | none => exact ⟨fun _ => well hmay (fun c e => by cases e), fun z2 => absurd rfl z2⟩
      | some c =>
        have hc18 := dsm_le k c
        refine ⟨fun z2 => absurd z2 (by
          intro h
          have h0 := nI_pos' (n := dsm k c) (by omega)
          rw [show nI (dsm k c) = -9 from h] at h0
          exact absurd h0 (by decide)), fun _ => ⟨fun z3 => ?_, fun z3 => well hmay (fun d e => ?_)⟩⟩
        · have z3' : nI (dsm k c) ≤ nI (0 + dsm k n) := z3
          rw [nI_leI (by omega) (by omega)] at z3'
          rw [nI_1]
          simp only [forall_eq]
          exact hN N' (FrP.rf _ _) hc1 (fun _ _ => ⟨c, rfl, by omega⟩)
        · cases e
          by_cases h : dsm k n < dsm k c
          · exact h
          · exact absurd (show nI (dsm k c) ≤ nI (0 + dsm k n) from nI_le (by omega) (by omega)) z3
theorem l_seven {k : Nat} {x1 x2 : Int32} {Q : Int32 → Mm → Prop} (h7 : isX7 T y) (hk : k ≤ 3) (h31 : M.1 y 31 = nI k) (hq : WP T mX7_findStarts 35 [(0, .ref y), (1, .int x1), (2, .int x2), (3, .int (nI (7 ^ k))), (4, .int 0)] [] M (qi Q)) :
    ∀ (m i : Nat), i + m = k → WP T mX7_findStarts 12 [(0, .ref y), (1, .int x1), (2, .int x2), (3, .int (nI (7 ^ i))), (4, .int (nI i))] [] M (qi Q) := by
  intro m
  induction m with
  | zero =>
    intro i hi
    refine sg_X7_findStarts_12 h7 ?_
    rw [h31, show i = k by omega]
    exact ⟨fun _ => hq, fun z => absurd (nI_le (by omega) (by omega)) z⟩
  | succ m ih =>
    intro i hi
    refine sg_X7_findStarts_12 h7 ?_
    rw [h31, nI_1, show nI (7 ^ i) * 7 = nI (7 ^ (i + 1)) by rw [Nat.pow_succ]; exact pk_mul (7 ^ i) 7]
    simp only [forall_eq]
    exact ⟨fun z => absurd z (nI_ge (by omega) (by omega)), fun _ => ih (i + 1) (by omega)⟩
theorem r_findStarts {G B : Blk} {sp u : Nat} {Q : Int32 → Mm → Prop} (h7 : isX7 T y) (hG : RG M y G) (hW : WG G) (hw3 : ∀ w, w < nW G → M.1 (y + 12) w = G 3 w) (hsp : sp < (lkL G B).length ∨ 3 ≤ sp) (hr : Rw (nW G) B (M.1 (y + 17))) (hb : Wb (nW G) B u) (hu : u ≤ 999)
    (hq : ∀ N b, FrR y M N → RLk N y (lkL G B) → (∀ c, b = some c → ∀ i, i < (lkL G B).length → N.1 (y + 23) i = nI (dgs (lkL G B).length c i)) → BOk (lkL G B).length sp (7 ^ (lkL G B).length) (fun n => safeF G (lkL G B) sp (dgs (lkL G B).length n) (B 0 1) 40 0 B) b → Q (bI (lkL G B).length b) N) : WPi T mX7_findStarts [.ref y, .int (btI sp)] M Q := by
  have h3 := (lkL_in G B).1
  refine WPM.of (by decide) rfl (Nat.le_of_ble_eq_true rfl) (sg_X7_findStarts_0 h7 (r_findLacking h7 hG hW hw3 hr (fun N hf hl => ?_)))
  refine l_seven (M := N) h7 h3 hl.1 ?_ (lkL G B).length 0 (by omega)
  exact l_codes (M := N) h7 (hG.frame hf.R) hW rfl h3 hl (fun i hi => lW_in hi) hsp (by rw [hf.1 17 (by decide) (by decide) (by decide)]; exact hr) hb hu (fun N2 b f2 g2 h2 => hq N2 b (hf.R.trans f2.R) (hl.kept f2) g2 h2) (7 ^ (lkL G B).length) 0 none N (Nat.zero_add _) (FrP.rf _ _) (fun c e => by cases e) (fun m hm => by omega)
end
