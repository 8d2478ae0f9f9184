/-! THE CLASS's SEARCH, by sums -/
def bx (k sp i : Nat) : Nat := if i < k ∧ i ≠ sp then 6 else 0
theorem bx_le (k sp i : Nat) : bx k sp i ≤ 6 := by unfold bx; split <;> omega
def boxP (k sp a b c : Nat) : Prop := a ≤ bx k sp 0 ∧ b ≤ bx k sp 1 ∧ c ≤ bx k sp 2
def ealy (s a b a' b' c' : Nat) : Prop := a' + b' + c' < s ∨ (a' + b' + c' = s ∧ (a' < a ∨ (a' = a ∧ b' < b)))
def none3 (k sp s a b : Nat) (P : Nat → Nat → Nat → Bool) : Prop := ∀ a' b' c', boxP k sp a' b' c' → ealy s a b a' b' c' → ¬ P a' b' c' = true
theorem s1_from : ∀ s, s < 19 → ∀ a, a < 7 → ∀ m, m < 7 → a ≤ s → (if 0 < (nI s - nI a) - nI m then (nI s - nI a) - nI m else 0) = nI (s - a - m) := by decide +kernel
theorem s2_from : ∀ s, s < 19 → ∀ a, a < 7 → ∀ m, m < 7 → a + m ≤ s → (nI s - nI a) - nI m = nI (s - a - m) := by decide +kernel
section
variable {T T' : Th} {x y : Nat} {M M' : Mm}
theorem c_latest {p i sp : Nat} {L : List (Nat × Int32)} {v : Int32} {Q : Int32 → Mm → Prop} (h3 : isX3 T p) (hp : PlC M p L sp) (hl : L.length ≤ 3) (hv : v = nI i) (hi : i < 3) (hq : Q (nI (bx L.length sp i)) M) : WPi T mX3_latest [.ref p, .int v] M Q := by
  subst hv
  refine WPM.of (by decide) rfl (Nat.le_of_ble_eq_true rfl) (sg_X3_latest_0 h3 ?_)
  rw [hp.1, hp.2.1]
  unfold bx at hq
  refine ⟨fun z => ?_, fun z => ⟨fun z2 => ?_, fun z2 => ?_⟩⟩
  · rw [nI_leI (by omega) (by omega)] at z
    rw [if_neg (by omega)] at hq; exact hq
  · rw [if_neg (fun q => q.2 ((spI_eq hi).mp z2))] at hq; exact hq
  · rw [nI_leI (by omega) (by omega)] at z
    rw [if_pos ⟨by omega, fun e => z2 ((spI_eq hi).mpr e)⟩] at hq; exact hq
theorem c_setStarts {p : Nat} {a b c : Int32} {Q : Mm → Prop} (h3 : isX3 T p) (hq : Q (sI (sI (sI M (p + 3) 0 a) (p + 3) 1 b) (p + 3) 2 c)) : WPv T mX3_setStarts [.ref p, .int a, .int b, .int c] M Q := by
  refine WPM.of (by decide) rfl (Nat.le_of_ble_eq_true rfl) (sg_X3_setStarts_0 h3 ?_)
  simp only [forall_eq]
  exact hq
section
variable {G F : Blk} {S : Stt} {I : Nat → Bool × Stt} {tn : Nat} {tb : Nat → Int32} {tr : Int64} {L : List (Nat × Int32)} {sp : Nat}
/-- what both ends of the class's search give -/
def CEnd (x : Nat) (M : Mm) (L : List (Nat × Int32)) (sp : Nat) (P : Nat → Nat → Nat → Bool) (Q : Int32 → Mm → Prop) : Prop :=
  (∀ N, FrC x M N → PlC N (x + 3) L sp → (∀ a b c, boxP L.length sp a b c → ¬ P a b c = true) → Q 0 N) ∧
  ∀ N a b c, FrC x M N → PlC N (x + 3) L sp → (∀ i, i < 3 → N.1 (x + 3 + 3) i = nI (st3 a b c i)) → boxP L.length sp a b c → P a b c = true → none3 L.length sp (a + b + c) a b P → Q 1 N
theorem l_c69 {s a : Nat} {Q : Int32 → Mm → Prop} (hL : LayC T x) (hC : CI x M G F S I tn tb tr) (hl : L.length ≤ 3) (hw : ∀ i, i < L.length → lW L i < 5) (hs : s ≤ bx L.length sp 0 + bx L.length sp 1 + bx L.length sp 2) (ha : a ≤ bx L.length sp 0) (has : a ≤ s)
    (hq : CEnd x M L sp (fun a b c => safeF G L sp (st3 a b c) (S.1 0 1) 40 0 S.1) Q)
    (hk : ∀ N, FrC x M N → PlC N (x + 3) L sp → none3 L.length sp s (a + 1) 0 (fun a b c => safeF G L sp (st3 a b c) (S.1 0 1) 40 0 S.1) → WP T mX6_findStarts 43 [(0, .ref x), (1, .int (nI (bx L.length sp 0))), (2, .int (nI (bx L.length sp 1))), (3, .int (nI (bx L.length sp 2))), (4, .int (nI s)), (5, .int (nI (a + 1)))] [] N (qi Q)) :
    ∀ (m b : Nat) (N : Mm), b + m = 20 → s ≤ a + b + bx L.length sp 2 → FrC x M N → PlC N (x + 3) L sp → none3 L.length sp s a b (fun a b c => safeF G L sp (st3 a b c) (S.1 0 1) 40 0 S.1) → WP T mX6_findStarts 69 [(0, .ref x), (1, .int (nI (bx L.length sp 0))), (2, .int (nI (bx L.length sp 1))), (3, .int (nI (bx L.length sp 2))), (4, .int (nI s)), (5, .int (nI a)), (6, .int (nI b))] [] N (qi Q) := by
  have b0 := bx_le L.length sp 0
  have b1 := bx_le L.length sp 1
  have b2 := bx_le L.length sp 2
  intro m
  induction m with
  | zero =>
    intro b N hb hsb hf hp hn
    refine sg_X6_findStarts_69 hL.1 ⟨fun _ => ?_, fun z => absurd (nI_lt (by omega) (by omega)) z⟩
    rw [nI_1]
    simp only [forall_eq]
    refine hk N hf hp (fun a' b' c' hx he => hn a' b' c' hx ?_)
    unfold boxP at hx; unfold ealy at he ⊢; omega
  | succ m ih =>
    intro b N hb hsb hf hp hn
    refine sg_X6_findStarts_69 hL.1 ?_
    rw [nI_1 a, nI_1 b, nI_add]
    simp only [forall_eq]
    refine ⟨fun z => ?_, fun z => ⟨fun z2 => ?_, fun z2 => ?_⟩⟩
    · rw [nI_ltI (by omega) (by omega)] at z
      refine hk N hf hp (fun a' b' c' hx he => hn a' b' c' hx ?_)
      unfold boxP at hx; unfold ealy at he ⊢; omega
    · rw [nI_ltI (by omega) (by omega)] at z2
      refine hk N hf hp (fun a' b' c' hx he => hn a' b' c' hx ?_)
      unfold boxP at hx; unfold ealy at he ⊢; omega
    · rw [nI_ltI (by omega) (by omega)] at z z2
      rw [s2_from s (by omega) a (by omega) b (by omega) (by omega)]
      refine c_setStarts hL.pl ?_
      generalize hN1 : sI (sI (sI N (x + 3 + 3) 0 (nI a)) (x + 3 + 3) 1 (nI b)) (x + 3 + 3) 2 (nI (s - a - b)) = N1
      have o1 : ∀ q, q ≠ x + 3 + 3 → N1.1 q = N.1 q := fun q hq => by rw [← hN1]; funext k; simp only [sI]; rw [if_neg (by omega), if_neg (by omega), if_neg (by omega)]
      have hf1 : FrC x M N1 := hf.trans ⟨fun q hq => o1 q (by omega), by rw [← hN1]; rfl, by rw [← hN1]; rfl⟩
      have hp1 : PlC N1 (x + 3) L sp := hp.kept (o1 _ (by omega)) (o1 _ (by omega)) (o1 _ (by omega))
      have hst : ∀ i, i < 3 → N1.1 (x + 3 + 3) i = nI (st3 a b (s - a - b) i) := fun i hi => by
        rw [← hN1]
        have : i = 0 ∨ i = 1 ∨ i = 2 := by omega
        rcases this with h | h | h <;> subst h <;> simp [sI, st3]
      have hC1 := hC.frame hf1
      refine c_trial hL hC1 (fun C ag => ?_)
      refine c_safe (st := st3 a b (s - a - b)) hL hC1 hp1 (fun i hi => hst i (by omega)) hl hw (fun i => by unfold st3; split <;> (try split) <;> omega) (fun B' => ?_)
      rw [ag_safe hw 40 0 S.1 C ag]
      have hf2 : FrC x M (wB N1 (x + 10) 6 B') := hf1.trans FrC.tri
      have hp2 : PlC (wB N1 (x + 10) 6 B') (x + 3) L sp := hp1.kept (wB_out (by omega)) (wB_out (by omega)) (wB_out (by omega))
      have hbx : boxP L.length sp a b (s - a - b) := ⟨ha, by omega, by omega⟩
      by_cases hP : safeF G L sp (st3 a b (s - a - b)) (S.1 0 1) 40 0 S.1 = true
      · rw [hP]
        refine ⟨fun z => absurd z (by decide), fun _ => ?_⟩
        refine hq.2 _ a b (s - a - b) hf2 hp2 (fun i hi => by rw [wB_out (by omega)]; exact hst i hi) hbx hP ?_
        rw [show a + b + (s - a - b) = s by omega]; exact hn
      · rw [show safeF G L sp (st3 a b (s - a - b)) (S.1 0 1) 40 0 S.1 = false by simpa using hP]
        refine ⟨fun _ => ih (b + 1) _ (by omega) (by omega) hf2 hp2 (fun a' b' c' hx he => ?_), fun z => absurd rfl z⟩
        by_cases e : a' = a ∧ b' = b ∧ c' = s - a - b
        · rw [e.1, e.2.1, e.2.2]; exact hP
        · refine hn a' b' c' hx ?_
          unfold ealy at he ⊢; omega
theorem l_c43 {s : Nat} {Q : Int32 → Mm → Prop} (hL : LayC T x) (hC : CI x M G F S I tn tb tr) (hl : L.length ≤ 3) (hw : ∀ i, i < L.length → lW L i < 5) (hs : s ≤ bx L.length sp 0 + bx L.length sp 1 + bx L.length sp 2)
    (hq : CEnd x M L sp (fun a b c => safeF G L sp (st3 a b c) (S.1 0 1) 40 0 S.1) Q)
    (hk : ∀ N, FrC x M N → PlC N (x + 3) L sp → none3 L.length sp (s + 1) 0 0 (fun a b c => safeF G L sp (st3 a b c) (S.1 0 1) 40 0 S.1) → WP T mX6_findStarts 30 [(0, .ref x), (1, .int (nI (bx L.length sp 0))), (2, .int (nI (bx L.length sp 1))), (3, .int (nI (bx L.length sp 2))), (4, .int (nI (s + 1)))] [] N (qi Q)) :
    ∀ (m a : Nat) (N : Mm), a + m = 20 → FrC x M N → PlC N (x + 3) L sp → none3 L.length sp s a 0 (fun a b c => safeF G L sp (st3 a b c) (S.1 0 1) 40 0 S.1) → WP T mX6_findStarts 43 [(0, .ref x), (1, .int (nI (bx L.length sp 0))), (2, .int (nI (bx L.length sp 1))), (3, .int (nI (bx L.length sp 2))), (4, .int (nI s)), (5, .int (nI a))] [] N (qi Q) := by
  have b0 := bx_le L.length sp 0
  have b1 := bx_le L.length sp 1
  have b2 := bx_le L.length sp 2
  intro m
  induction m with
  | zero =>
    intro a N hb hf hp hn
    refine sg_X6_findStarts_43 hL.1 ⟨fun _ => ?_, fun z => absurd (nI_lt (by omega) (by omega)) z⟩
    rw [nI_1]
    simp only [forall_eq]
    refine hk N hf hp (fun a' b' c' hx he => hn a' b' c' hx ?_)
    unfold boxP at hx; unfold ealy at he ⊢; omega
  | succ m ih =>
    intro a N hb hf hp hn
    refine sg_X6_findStarts_43 hL.1 ?_
    rw [nI_1 s]
    simp only [forall_eq]
    refine ⟨fun z => ?_, fun z => ⟨fun z2 => ?_, fun z2 => ?_⟩⟩
    · rw [nI_ltI (by omega) (by omega)] at z
      refine hk N hf hp (fun a' b' c' hx he => hn a' b' c' hx ?_)
      unfold boxP at hx; unfold ealy at he ⊢; omega
    · rw [nI_ltI (by omega) (by omega)] at z2
      refine hk N hf hp (fun a' b' c' hx he => hn a' b' c' hx ?_)
      unfold boxP at hx; unfold ealy at he ⊢; omega
    · rw [nI_ltI (by omega) (by omega)] at z z2
      rw [s1_from s (by omega) a (by omega) _ (by omega) (by omega)]
      refine l_c69 hL hC hl hw hs (by omega) (by omega) hq (fun N2 f2 p2 n2 => ih (a + 1) N2 (by omega) f2 p2 n2) (20 - (s - a - bx L.length sp 2)) _ N (by omega) (by omega) hf hp (fun a' b' c' hx he => hn a' b' c' hx ?_)
      unfold boxP at hx; unfold ealy at he ⊢; omega
theorem c_findStarts {Q : Int32 → Mm → Prop} (hL : LayC T x) (hC : CI x M G F S I tn tb tr) (hp : PlC M (x + 3) L sp) (hl : L.length ≤ 3) (hw : ∀ i, i < L.length → lW L i < 5)
    (hq : CEnd x M L sp (fun a b c => safeF G L sp (st3 a b c) (S.1 0 1) 40 0 S.1) Q) : WPi T mX6_findStarts [.ref x] M Q := by
  have b0 := bx_le L.length sp 0
  have b1 := bx_le L.length sp 1
  have b2 := bx_le L.length sp 2
  refine WPM.of (by decide) rfl (Nat.le_of_ble_eq_true rfl) (sg_X6_findStarts_0 hL.1 ?_)
  refine c_latest (i := 0) hL.pl hp hl rfl (by decide) (c_latest (i := 1) hL.pl hp hl rfl (by decide) (c_latest (i := 2) hL.pl hp hl rfl (by decide) ?_))
  have main : ∀ (m s : Nat) (N : Mm), s + m = 30 → FrC x M N → PlC N (x + 3) L sp → none3 L.length sp s 0 0 (fun a b c => safeF G L sp (st3 a b c) (S.1 0 1) 40 0 S.1) → WP T mX6_findStarts 30 [(0, .ref x), (1, .int (nI (bx L.length sp 0))), (2, .int (nI (bx L.length sp 1))), (3, .int (nI (bx L.length sp 2))), (4, .int (nI s))] [] N (qi Q) := by
    intro m
    induction m with
    | zero =>
      intro s N hs hf hp hn
      refine sg_X6_findStarts_30 hL.1 ⟨fun _ => hq.1 N hf hp (fun a b c hx => hn a b c hx ?_), fun z => absurd (by rw [nI_add, nI_add]; exact nI_lt (by omega) (by omega)) z⟩
      unfold boxP at hx; unfold ealy; omega
    | succ m ih =>
      intro s N hs hf hp hn
      refine sg_X6_findStarts_30 hL.1 ?_
      rw [nI_add, nI_add]
      refine ⟨fun z => hq.1 N hf hp (fun a b c hx => hn a b c hx ?_), fun z => ?_⟩
      · rw [nI_ltI (by omega) (by omega)] at z
        unfold boxP at hx; unfold ealy; omega
      · rw [nI_ltI (by omega) (by omega)] at z
        exact l_c43 hL hC hl hw (by omega) hq (fun N2 f2 p2 n2 => ih (s + 1) N2 (by omega) f2 p2 n2) 20 0 N (by omega) hf hp hn
  exact main 30 0 M (by omega) (FrC.rf _ _) hp (fun a' b' c' hx he => by unfold ealy at he; omega)
end
end
