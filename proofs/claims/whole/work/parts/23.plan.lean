/-! THE CLASS's PLAN -/
def spI (sp : Nat) : Int32 := if sp < 3 then nI sp else -1
theorem spI_eq {i sp : Nat} (hi : i < 3) : nI i = spI sp ↔ i = sp := by
  unfold spI
  split
  · rename_i h; exact nI_eq (by omega) (by omega)
  · rename_i h
    exact ⟨fun e => absurd e (m9_m1 (by omega)).2, fun e => by omega⟩
def PlC (M : Mm) (p : Nat) (L : List (Nat × Int32)) (sp : Nat) : Prop := M.1 p 0 = nI L.length ∧ M.1 p 1 = spI sp ∧ ∀ i, i < L.length → M.1 (p + 1) i = nI (lW L i) ∧ M.1 (p + 2) i = lK L i
def StP (M : Mm) (p : Nat) (L : List (Nat × Int32)) (st : Nat → Nat) : Prop := ∀ i, i < L.length → M.1 (p + 3) i = nI (st i)
theorem PlC.kept {M M' : Mm} {p sp : Nat} {L : List (Nat × Int32)} (h : PlC M p L sp) (e0 : M'.1 p = M.1 p) (e1 : M'.1 (p + 1) = M.1 (p + 1)) (e2 : M'.1 (p + 2) = M.1 (p + 2)) : PlC M' p L sp := by
  unfold PlC at h ⊢
  rw [e0, e1, e2]; exact h
theorem StP.kept {M M' : Mm} {p : Nat} {L : List (Nat × Int32)} {st : Nat → Nat} (h : StP M p L st) (e : M'.1 (p + 3) = M.1 (p + 3)) : StP M' p L st := fun i hi => by rw [e]; exact h i hi
section
variable {T T' : Th} {x y : Nat} {M M' : Mm}
theorem LayC.pl (hL : LayC T x) : isX3 T (x + 3) := hL.1.2.2.1
theorem l_order {m t : Nat} {L : List (Nat × Int32)} {sp : Nat} {st : Nat → Nat} {Q : Mm → Prop} {p : Nat} (h3 : isX3 T p) (h2 : isX2 T m) (hd : p + 4 ≤ m) (hp : PlC M p L sp) (hs : StP M p L st) (hL : L.length ≤ 3) (hw : ∀ i, i < L.length → lW L i < 5) (hst : ∀ i, st i ≤ 100) (ht : t ≤ 100) :
    ∀ (n i : Nat) (B : Blk), i + n = L.length → Q (wB M m 6 (foldF (ordS L sp st t) i n B)) → WP T mX3_order 2 [(0, .ref p), (1, .ref m), (2, .int (nI t)), (3, .int (nI i))] [] (wB M m 6 B) (qv Q) := by
  have o : ∀ (B : Blk) (c : Nat), c < 4 → (wB M m 6 B).1 (p + c) = M.1 (p + c) := fun B c hc => wB_out (by omega)
  have o0 : ∀ (B : Blk), (wB M m 6 B).1 p = M.1 p := fun B => wB_out (by omega)
  intro n
  induction n with
  | zero =>
    intro i B hi hq
    refine sg_X3_order_2 h3 h2 ?_
    rw [o0, hp.1]
    exact ⟨fun _ => hq, fun z => absurd (nI_le (by omega) (by omega)) z⟩
  | succ n ih =>
    intro i B hi hq
    refine sg_X3_order_2 h3 h2 ?_
    obtain ⟨w1, w2⟩ := hp.2.2 i (by omega)
    have hwi := hw i (by omega)
    have v3 : vp_in (nI i) 3 := vp_nI (by omega) (by decide)
    have v5 : vp_in (nI (lW L i)) 5 := vp_nI hwi (by decide)
    rw [o0, o B 3 (by decide), o B 1 (by decide), hp.1, hp.2.1, cl_nI (by omega), hs i (by omega), w1, nI_1]
    simp only [forall_eq]
    simp only [foldF] at hq
    have ih := ih (i + 1)
    have hne : ¬ (st i = t ∧ i ≠ sp ∧ bget (B 0 1) (lW L i) = false) → WP T mX3_order 2 [(0, .ref p), (1, .ref m), (2, .int (nI t)), (3, .int (nI (i + 1)))] [] (wB M m 6 B) (qv Q) := fun h => by
      rw [show ordS L sp st t B i = B from if_neg h] at hq
      exact ih B (by omega) hq
    refine ⟨fun z => absurd z (nI_ge (by omega) (by omega)), fun _ => ⟨fun z => absurd z (nI_ge (b := 3) (by omega) (by omega)), fun _ => ⟨v3, fun z => hne (fun q => z (by rw [q.1])), fun z => ⟨fun z2 => hne (fun q => q.2.1 ((spI_eq (by omega)).mp z2)), fun z2 => ⟨v3, c_isCaught h2 ?_⟩⟩⟩⟩⟩
    have hst' : st i = t := (nI_eq (by have := hst i; omega) (by omega)).mp z
    have hsp : i ≠ sp := fun e => z2 ((spI_eq (by omega)).mpr e)
    rw [w6_0]
    by_cases hc : ((B 0 1 >>> (nI (lW L i) &&& 31)) &&& 1) = 1
    · have hb : bget (B 0 1) (lW L i) = true := decide_eq_true hc
      rw [if_pos hc]
      exact ⟨fun _ => hne (fun q => by rw [hb] at q; exact absurd q.2.2 (by decide)), fun z => absurd z (by decide)⟩
    · have hb : bget (B 0 1) (lW L i) = false := decide_eq_false hc
      rw [if_neg hc]
      refine ⟨fun z => absurd rfl z, fun _ => ?_⟩
      rw [o B 1 (by decide), o B 2 (by decide), w1, cl_nI (by omega), w2, w6_4, s6_4]
      refine ⟨v3, v5, v3, v5, ?_⟩
      rw [show ordS L sp st t B i = _ from if_pos ⟨hst', hsp, hb⟩] at hq
      exact ih _ (by omega) hq
theorem c_order {m t : Nat} {L : List (Nat × Int32)} {sp : Nat} {st : Nat → Nat} {B : Blk} {Q : Mm → Prop} {p : Nat} (h3 : isX3 T p) (h2 : isX2 T m) (hd : p + 4 ≤ m) (hp : PlC M p L sp) (hs : StP M p L st) (hL : L.length ≤ 3) (hw : ∀ i, i < L.length → lW L i < 5) (hst : ∀ i, st i ≤ 100) (ht : t ≤ 100) (hq : Q (wB M m 6 (ordB L sp st t B))) : WPv T mX3_order [.ref p, .ref m, .int (nI t)] (wB M m 6 B) Q :=
  WPM.of (by decide) rfl (Nat.le_of_ble_eq_true rfl) (sg_X3_order_0 h3 h2 (l_order h3 h2 hd hp hs hL hw hst ht L.length 0 B (by omega) hq))
theorem l_csafe {G F : Blk} {S : Stt} {I : Nat → Bool × Stt} {tn : Nat} {tb : Nat → Int32} {tr : Int64} {L : List (Nat × Int32)} {sp : Nat} {st : Nat → Nat} {Q : Int32 → Mm → Prop} (hL : LayC T x) (hC : CI x M G F S I tn tb tr) (hp : PlC M (x + 3) L sp) (hs : StP M (x + 3) L st) (hl : L.length ≤ 3) (hw : ∀ i, i < L.length → lW L i < 5) (hst : ∀ i, st i ≤ 100) :
    ∀ (m t : Nat) (B : Blk), t + m = 40 → (∀ B', Q (b2i (safeF G L sp st (S.1 0 1) m t B)) (wB M (x + 10) 6 B')) → WP T mX6_isTrialSafe 2 [(0, .ref x), (1, .int (nI t))] [] (wB M (x + 10) 6 B) (qi Q) := by
  intro m
  induction m with
  | zero =>
    intro t B ht hq
    exact sg_X6_isTrialSafe_2 hL.1 ⟨fun _ => hq B, fun z => absurd (nI_le (a := 40) (by omega) (by omega)) z⟩
  | succ m ih =>
    intro t B ht hq
    refine sg_X6_isTrialSafe_2 hL.1 ⟨fun z => absurd z (nI_ge (b := 40) (by omega) (by omega)), fun _ => ?_⟩
    refine c_order hL.pl hL.tri (by omega) hp hs hl hw hst (by omega) ?_
    rw [nI_1]
    simp only [forall_eq]
    refine ⟨(hC.frame FrC.tri).isG hL, c_passT hL hC ?_⟩
    have hN : (wB M (x + 10) 6 (passB G (ordB L sp st t B)).1).1 ((x + 16) + 1) = S.1 0 := by rw [wB_out (by omega)]; exact hC.2.2.2.1.2.1.z
    rw [w6_0, hN]
    simp only [safeF] at hq
    refine ⟨fun z => ?_, fun z => ?_⟩
    · simp only [z, if_true] at hq; exact ih (t + 1) _ (by omega) hq
    · simp only [z, if_false] at hq; exact hq _
theorem c_safe {G F B : Blk} {S : Stt} {I : Nat → Bool × Stt} {tn : Nat} {tb : Nat → Int32} {tr : Int64} {L : List (Nat × Int32)} {sp : Nat} {st : Nat → Nat} {Q : Int32 → Mm → Prop} (hL : LayC T x) (hC : CI x M G F S I tn tb tr) (hp : PlC M (x + 3) L sp) (hs : StP M (x + 3) L st) (hl : L.length ≤ 3) (hw : ∀ i, i < L.length → lW L i < 5) (hst : ∀ i, st i ≤ 100) (hq : ∀ B', Q (b2i (safeF G L sp st (S.1 0 1) 40 0 B)) (wB M (x + 10) 6 B')) : WPi T mX6_isTrialSafe [.ref x] (wB M (x + 10) 6 B) Q :=
  WPM.of (by decide) rfl (Nat.le_of_ble_eq_true rfl) (sg_X6_isTrialSafe_0 hL.1 (l_csafe hL hC hp hs hl hw hst 40 0 B (by omega) hq))
theorem c_gatherNone {p : Nat} {Q : Mm → Prop} (h3 : isX3 T p) (hq : ∀ N, N = sI (sI M p 0 0) p 1 (-1) → Q N) : WPv T mX3_gatherNone [.ref p] M Q := by
  refine WPM.of (by decide) rfl (Nat.le_of_ble_eq_true rfl) (sg_X3_gatherNone_0 h3 ?_)
  intro M1 e1 M2 e2
  exact hq M2 (by rw [e2, e1])
/-- gathering: what comes to the plan, by the list that is there already -/
theorem l_gather {G B : Blk} {p g m : Nat} {Q : Mm → Prop} (h3 : isX3 T p) (h1 : isX1 T g) (h2 : isX2 T m) (hdg : g + 6 ≤ p ∨ p + 4 ≤ g) (hdm : m + 6 ≤ p ∨ p + 4 ≤ m)
    (hq : ∀ N L, L = lkL G B → PlC N p L 5 → (∀ a, (a < p ∨ p + 3 ≤ a) → N.1 a = M.1 a) → N.2 = M.2 → Q N) (hG : GrC M g G) (hB : GrC M m B) :
    ∀ (n i : Nat) (N : Mm) (L : List (Nat × Int32)), i + n = nW G → L.length ≤ 3 → lkF G B i n L = lkL G B → PlC N p L 5 → (∀ a, (a < p ∨ p + 3 ≤ a) → N.1 a = M.1 a) → N.2 = M.2 → WP T mX3_gather 6 [(0, .ref p), (1, .ref g), (2, .ref m), (3, .int (nI i))] [] N (qv Q) := by
  have h5 := nW_le G
  intro n
  induction n with
  | zero =>
    intro i N L hi hl hk hp ho h2'
    refine sg_X3_gather_6 h3 h1 h2 ?_
    have gz : N.1 g = G 0 := by rw [ho g (by omega)]; exact hG.z
    have hx := nW_out (G := G) (i := i) (by omega) (by omega)
    rw [gz]
    have hqq := hq N L hk hp ho h2'
    refine ⟨fun _ => hqq, fun z => ⟨fun _ => hqq, fun z2 => ?_⟩⟩
    rcases hx with hx | hx
    · exact absurd hx z
    · exact absurd hx.2 z2
  | succ n ih =>
    intro i N L hi hl hk hp ho h2'
    refine sg_X3_gather_6 h3 h1 h2 ?_
    obtain ⟨e1, e2, e3, e4, e5⟩ := nW_in (G := G) (i := i) (by omega)
    have gz : N.1 g = G 0 := by rw [ho g (by omega)]; exact hG.z
    have g3 : N.1 (g + 3) = G 3 := by rw [ho _ (by omega)]; exact hG 3 (by decide)
    have b4 : N.1 (m + 4) = B 4 := by rw [ho _ (by omega)]; exact hB 4 (by decide)
    have b5 : N.1 (m + 5) = B 5 := by rw [ho _ (by omega)]; exact hB 5 (by decide)
    have b0 : N.1 m = B 0 := by rw [ho _ (by omega)]; exact hB.z
    rw [gz, hp.1, g3, b4, b5, e3, e5]
    simp only [e1, e2, e4, not_false_eq_true, false_implies, true_implies, true_and, forall_eq]
    simp only [lkF] at hk
    refine ⟨fun z => ?_, fun z => ?_⟩
    · have h3' : 3 ≤ L.length := by rw [show (3 : Int32) = nI 3 from rfl, nI_leI (by omega) (by omega)] at z; exact z
      rw [if_pos h3'] at hk
      exact hq N L hk hp ho h2'
    · have h3' : ¬ 3 ≤ L.length := fun q => z (nI_le (a := 3) q (by omega))
      rw [if_neg h3'] at hk
      have skip : lkC G B i = false → WP T mX3_gather 6 [(0, .ref p), (1, .ref g), (2, .ref m), (3, .int (nI (i + 1)))] [] N (qv Q) := fun hc => by
        rw [hc] at hk
        exact ih (i + 1) N L (by omega) hl hk hp ho h2'
      refine ⟨fun z2 => skip ?_, fun z2 => c_isCaught h2 ?_⟩
      · unfold lkC
        rw [decide_eq_false (Int32.not_lt.mpr z2)]; rfl
      · rw [b0]
        by_cases hc : ((B 0 1 >>> (nI i &&& 31)) &&& 1) = 1
        · rw [if_pos hc]
          refine ⟨fun _ => skip ?_, fun z => absurd z (by decide)⟩
          unfold lkC
          rw [show bget (B 0 1) i = true from decide_eq_true hc]; simp
        · rw [if_neg hc]
          refine ⟨fun z => absurd rfl z, fun _ => ?_⟩
          have hlk : lkC G B i = true := by
            unfold lkC
            rw [show bget (B 0 1) i = false from decide_eq_false hc, decide_eq_true (Int32.not_le.mp z2)]; rfl
          rw [hlk] at hk
          simp only [if_true] at hk
          have q1 : (sI N (p + 1) L.length (nI i)).1 p 0 = nI L.length := by simp only [sI]; rw [if_neg (by omega)]; exact hp.1
          rw [hp.1, cl_nI (by omega), q1, cl_nI (by omega)]
          refine ⟨vp_nI (by omega) (by decide), vp_nI (by omega) (by decide), ?_⟩
          have q2 : (sI (sI N (p + 1) L.length (nI i)) (p + 2) L.length (G 3 i - B 5 i - B 4 i)).1 p 0 = nI L.length := by simp only [sI]; rw [if_neg (by omega), if_neg (by omega)]; exact hp.1
          rw [q2, nI_1]
          refine ih (i + 1) _ (L ++ [(i, G 3 i - B 5 i - B 4 i)]) (by omega) (by simp; omega) hk ⟨?_, ?_, fun j hj => ?_⟩ (fun a ha => ?_) h2'
          · simp [sI]
          · simp only [sI]; rw [if_neg (by omega), if_neg (by omega), if_neg (by omega)]; exact hp.2.1
          · have hj' : j < L.length + 1 := by simpa using hj
            by_cases e : j = L.length
            · subst e
              refine ⟨?_, ?_⟩
              · simp only [sI]; rw [if_neg (by omega), if_neg (by omega), if_pos ⟨trivial, trivial⟩]
                unfold lW; simp
              · simp only [sI]; rw [if_neg (by omega), if_pos ⟨trivial, trivial⟩]
                unfold lK; simp
            · obtain ⟨a1, a2⟩ := hp.2.2 j (by omega)
              refine ⟨?_, ?_⟩
              · simp only [sI]; rw [if_neg (by omega), if_neg (by omega), if_neg (by omega), a1]
                unfold lW; rw [List.getD_eq_getElem?_getD, List.getD_eq_getElem?_getD, List.getElem?_append_left (by omega)]
              · simp only [sI]; rw [if_neg (by omega), if_neg (by omega), if_neg (by omega), a2]
                unfold lK; rw [List.getD_eq_getElem?_getD, List.getD_eq_getElem?_getD, List.getElem?_append_left (by omega)]
          · rw [← ho a ha]; funext k; simp only [sI]; rw [if_neg (by omega), if_neg (by omega), if_neg (by omega)]
theorem c_gather {G F : Blk} {S : Stt} {I : Nat → Bool × Stt} {tn : Nat} {tb : Nat → Int32} {tr : Int64} {Q : Mm → Prop} (hL : LayC T x) (hC : CI x M G F S I tn tb tr) (hq : ∀ N, FrC x M N → PlC N (x + 3) (lkL G S.1) 5 → Q N) : WPv T mX3_gather [.ref (x + 3), .ref (M.2.2 x 7), .ref ((x + 16) + 1)] M Q := by
  refine WPM.of (by decide) rfl (Nat.le_of_ble_eq_true rfl) (sg_X3_gather_0 hL.pl (hC.isG hL) hL.st.2.1 (c_gatherNone hL.pl (fun N e => ?_)))
  refine l_gather (M := M) (G := G) (B := S.1) hL.pl (hC.isG hL) hL.st.2.1 (by rcases hC.1 with h | h <;> rw [h.1] <;> omega) (by omega) (fun N L e2 hp ho h2 => hq N ⟨fun a ha => ho a (by omega), by rw [h2], by rw [h2]⟩ (by rw [← e2]; exact hp)) hC.2.1 hC.2.2.2.1.2.1 (nW G) 0 N [] (by omega) (by simp) rfl ⟨?_, ?_, fun i hi => by simp at hi⟩ (fun a ha => ?_) ?_
  · rw [e]; simp [sI]; rfl
  · rw [e]; simp [sI, spI]
  · rw [e]; funext k; simp only [sI]; rw [if_neg (by omega), if_neg (by omega)]
  · rw [e]; rfl
end
