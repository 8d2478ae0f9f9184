/-! THE CLASS's CHANCE -/
def mnF (G : Blk) (j V a : Nat) : Nat := (mins G (nI j) (nI (V + a))).toNatClampNeg
theorem mn_nI {G : Blk} {j V a : Nat} (hW : WG G) (hj : j < nW G) (h : V + a < 100000) : mins G (nI j) (nI (V + a)) = nI (mnF G j V a) ∧ mnF G j V a ≤ 7 := by
  obtain ⟨-, m1, m2⟩ := mins_eq hW (nI_pos' (n := V + a) (by omega)) hj
  obtain ⟨q, q1, q2⟩ := nI_of2 (M := 7) (n := 7) rfl (Int32.not_lt.mpr m1) m2
  unfold mnF
  rw [q2, cl_nI (by omega)]
  exact ⟨rfl, q1⟩
theorem left_1 : ∀ l, l < 8 → (if 0 < nI l - 1 then nI l - 1 else (0 : Int32)) = nI (l - 1) := by decide +kernel
def alF (V : Nat) (mf : Nat → Nat) (l0 : Nat) (sn : Nat → Int32) (t g : Nat) : Bool := decide (¬ nI (V + (csq mf l0 g).1) ≤ sn t)
def ul (f : Nat → Int64) (k : Nat) (v : Int64) : Nat → Int64 := fun j => if j = k then v else f j
def cM (N : Mm) (p : Nat) (f : Nat → Int64) : Mm := (N.1, fun a k => if a = p + 2 then f k else N.2.1 a k, N.2.2)
theorem cM_s {N : Mm} {p k : Nat} {f : Nat → Int64} {v : Int64} : sL (cM N p f) (p + 2) k v = cM N p (ul f k v) := by
  refine Prod.ext rfl (Prod.ext ?_ rfl)
  funext a j
  simp only [sL, cM, ul]
  grind
theorem cM_r {N : Mm} {p : Nat} {f : Nat → Int64} : (cM N p f).2.1 (p + 2) = f := by funext k; simp [cM]
theorem cM_self {N : Mm} {p : Nat} : cM N p (N.2.1 (p + 2)) = N := by
  refine Prod.ext rfl (Prod.ext ?_ rfl)
  funext a j
  simp only [cM]
  grind
theorem cM_FrC {x : Nat} {N : Mm} {f : Nat → Int64} : FrC x N (cM N (x + 7) f) := ⟨fun _ _ => rfl, by funext k; simp only [cM]; rw [if_neg (by omega)], rfl⟩
section
variable {T T' : Th} {x y : Nat} {M M' : Mm} {G F : Blk} {S : Stt} {I : Nat → Bool × Stt} {tn : Nat} {tb : Nat → Int32} {tr : Int64}
theorem LayC.ch (hL : LayC T x) : isX0 T (x + 7) := hL.1.2.2.2.1
theorem l_foresee {j V l : Nat} {Q : Mm → Prop} (hL : LayC T x) (hC : CI x M G F S I tn tb tr) (hW : WG G) (hj : j < nW G) (hV : V ≤ 9000) (hl : l ≤ 7)
    (hq : ∀ N, FrC x M N → N.1 (x + 7) 0 = S.1 0 0 → (∀ i, i ≤ 12 → N.1 (x + 8) i = nI (V + (csq (mnF G j V) l i).1)) → Q N) :
    ∀ (m g : Nat) (N : Mm), g + m = 12 → FrC x M N → N.1 (x + 7) 0 = S.1 0 0 → (∀ i, i ≤ g → N.1 (x + 8) i = nI (V + (csq (mnF G j V) l i).1)) → WP T mX0_foresee 35 [(0, .ref (x + 7)), (1, .ref (M.2.2 x 7)), (3, .int (nI j)), (4, .int (nI (V + (csq (mnF G j V) l g).1))), (5, .int (nI (csq (mnF G j V) l g).2)), (6, .int (nI (g + 1)))] [] N (qv Q) := by
  have hmf : ∀ a, a ≤ 13 → mnF G j V a ≤ 7 := fun a ha => (mn_nI hW hj (by omega)).2
  intro m
  induction m with
  | zero =>
    intro g N hg hf h0 hb
    refine sg_X0_foresee_35 hL.ch (hC.isG hL) ⟨fun _ => hq N hf h0 (fun i hi => hb i (by omega)), fun z => absurd (nI_lt (a := 12) (by omega) (by omega)) z⟩
  | succ m ih =>
    intro g N hg hf h0 hb
    obtain ⟨ca, cl⟩ := csq_in hmf hl g (by omega)
    refine sg_X0_foresee_35 hL.ch (hC.isG hL) ⟨fun z => absurd z (nI_nlt (a := 12) (by omega) (by omega)), fun _ => ?_⟩
    rw [left_1 _ (by omega), nI_1 (g + 1), nI_1 (V + _), cl_nI (by omega)]
    simp only [forall_eq]
    have step : ∀ v : Int32, v = nI (V + (csq (mnF G j V) l (g + 1)).1) → (∀ i, i ≤ g + 1 → (sI N (x + 7 + 1) (g + 1) v).1 (x + 8) i = nI (V + (csq (mnF G j V) l i).1)) := fun v hv i hi => by
      simp only [sI]
      by_cases e : i = g + 1
      · rw [if_pos ⟨by trivial, e⟩, e]; exact hv
      · rw [if_neg (by omega)]; exact hb i (by omega)
    have fr : ∀ v : Int32, FrC x M (sI N (x + 7 + 1) (g + 1) v) := fun v => hf.trans (sI_FrC (by omega) (by omega))
    have z0 : ∀ v : Int32, (sI N (x + 7 + 1) (g + 1) v).1 (x + 7) 0 = S.1 0 0 := fun v => by simp only [sI]; rw [if_neg (by omega)]; exact h0
    have ih := ih (g + 1)
    have e12 : (csq (mnF G j V) l (g + 1)) = if (csq (mnF G j V) l g).2 < 2 then ((csq (mnF G j V) l g).1 + 1, mnF G j V ((csq (mnF G j V) l g).1 + 1)) else ((csq (mnF G j V) l g).1, (csq (mnF G j V) l g).2 - 1) := rfl
    refine ⟨fun z => ⟨vp_nI (by omega) (by decide), ?_⟩, fun z => ?_⟩
    · have h2 : ¬ (csq (mnF G j V) l g).2 < 2 := fun q => z (by rw [show (csq (mnF G j V) l g).2 - 1 = 0 by omega]; rfl)
      rw [if_neg h2] at e12
      rw [e12] at ih step
      exact ih _ (by omega) (fr _) (z0 _) (step _ rfl)
    · have h2 : (csq (mnF G j V) l g).2 < 2 := by
        by_cases q : (csq (mnF G j V) l g).2 < 2
        · exact q
        · exact absurd z (nI_ne0 (by omega) (by omega))
      rw [if_pos h2] at e12
      rw [e12] at ih step
      have hG : GrC N (M.2.2 x 7) G := by
        have := (hC.frame hf).2.1
        rw [hf.2.2] at this; exact this
      refine c_minutesFor (hC.isG hL) hG ?_
      rw [show V + (csq (mnF G j V) l g).1 + 1 = V + ((csq (mnF G j V) l g).1 + 1) by omega, (mn_nI hW hj (by omega)).1]
      exact ⟨vp_nI (by omega) (by decide), ih _ (by omega) (fr _) (z0 _) (step _ rfl)⟩
theorem c_foresee {j V l : Nat} {Q : Mm → Prop} (hL : LayC T x) (hC : CI x M G F S I tn tb tr) (hW : WG G) (hj : j < nW G) (hV : V ≤ 9000) (hl : l ≤ 7) (e1 : S.1 1 j = nI V) (e3 : S.1 3 j = nI l)
    (hq : ∀ N, FrC x M N → N.1 (x + 7) 0 = S.1 0 0 → (∀ i, i ≤ 12 → N.1 (x + 8) i = nI (V + (csq (mnF G j V) l i).1)) → Q N) : WPv T mX0_foresee [.ref (x + 7), .ref (M.2.2 x 7), .ref ((x + 16) + 1), .int (nI j)] M Q := by
  have h5 := nW_le G
  refine WPM.of (by decide) rfl (Nat.le_of_ble_eq_true rfl) (sg_X0_foresee_0 hL.ch (hC.isG hL) hL.st.2.1 ?_)
  have hB := hC.2.2.2.1.2.1
  rw [hB.z, cl_nI (by omega)]
  simp only [forall_eq]
  have o : ∀ c, (sI M (x + 7) 0 (S.1 0 0)).1 (x + 16 + 1 + c) = M.1 (x + 16 + 1 + c) := fun c => by funext k; simp only [sI]; rw [if_neg (by omega)]
  rw [o 1, o 3, hB 1 (by decide), hB 3 (by decide), e1, e3]
  refine ⟨vp_nI (by omega) (by decide), vp_nI (by omega) (by decide), ?_⟩
  refine l_foresee (V := V) (l := l) hL hC hW hj hV hl hq 12 0 _ (by omega) ((sI_FrC (by omega) (by omega)).trans (sI_FrC (by omega) (by omega))) ?_ (fun i hi => ?_)
  · simp [sI]
  · rw [show i = 0 by omega]; simp [sI, csq]
/-! runs -/
theorem l_cm8 {p xx t : Nat} {al : Nat → Nat → Bool} {rc : Int32} {N : Mm} {Q : Mm → Prop} (h0 : isX0 T p) (hx : xx ≤ 10) (ha : ∀ g, g ≤ 12 → (N.1 (p + 1) g ≤ rc ↔ al (t + 1) g = false)) (hq : ∀ f, (∀ g, g ≤ 12 → f g = lN (Rn xx al (t + 1) g)) → Q (cM N p f)) :
    ∀ (i : Nat) (f : Nat → Int64), i ≤ 13 → (∀ g, g < i → f g = lN (Rn xx al t g)) → (∀ g, i ≤ g → g ≤ 12 → f g = lN (Rn xx al (t + 1) g)) → WP T mX0_chanceMinute 8 [(0, .ref p), (1, .int (nI xx)), (3, .int rc), (4, .int (nI i + (-1)))] [] (cM N p f) (qv Q) := by
  intro i
  induction i with
  | zero =>
    intro f hi h1 h2
    exact sg_X0_chanceMinute_8 h0 ⟨fun _ => hq f (fun g hg => h2 g (by omega) hg), fun z => absurd (by decide) z⟩
  | succ i ih =>
    intro f hi h1 h2
    rw [nI_pm]
    have key : ∀ s0 : Int64, s0 = lN (if i = 0 then 0 else Rn xx al t (i - 1) * (10 - xx)) → WP T mX0_chanceMinute 49 [(0, .ref p), (1, .int (nI xx)), (3, .int rc), (4, .int (nI i)), (5, .long (lN (Rn xx al t i * xx)))] [.long s0] (cM N p f) (qv Q) := by
      intro s0 hs
      refine sg_X0_chanceMinute_49 h0 ?_
      rw [cl_nI (by omega), cM_s, cM_s]
      simp only [forall_eq]
      have hal := ha i (by omega)
      have v13 : vp_in (nI i) 13 := vp_nI (by omega) (by decide)
      have nx : ∀ v : Int64, v = lN (Rn xx al (t + 1) i) → WP T mX0_chanceMinute 8 [(0, .ref p), (1, .int (nI xx)), (3, .int rc), (4, .int (nI i + (-1)))] [] (cM N p (ul f i v)) (qv Q) := fun v hv => by
        refine ih _ (by omega) (fun g hg => ?_) (fun g h3 h4 => ?_)
        · unfold ul; rw [if_neg (by omega)]; exact h1 g (by omega)
        · unfold ul
          by_cases e : g = i
          · rw [if_pos e, e]; exact hv
          · rw [if_neg e]; exact h2 g (by omega) h4
      refine ⟨v13, fun z => ⟨v13, nx _ ?_⟩, fun z => ⟨v13, nx _ ?_⟩⟩
      · simp only [Rn]; rw [hal.mp z]; rfl
      · have : al (t + 1) i = true := by
          cases h : al (t + 1) i
          · exact absurd (hal.mpr h) z
          · rfl
        simp only [Rn]
        rw [hs, lN_add, if_pos this]
    refine sg_X0_chanceMinute_8 h0 ⟨fun z => absurd z (nI_pos (by omega)), fun _ => ?_⟩
    rw [cM_r, cl_nI (by omega), h1 i (by omega), nI_l (by omega), lN_mul]
    simp only [forall_eq]
    refine ⟨vp_nI (by omega) (by decide), fun z => key _ ?_, fun z => ?_⟩
    · have : i = 0 := by
        by_cases e : i = 0
        · exact e
        · exact absurd z (nI_nle (by omega) (by omega))
      rw [if_pos this]; rfl
    · have hi0 : ¬ i = 0 := fun e => z (by rw [e]; decide)
      have e1 : nI i - 1 = nI (i - 1) := by
        obtain ⟨k, rfl⟩ : ∃ k, i = k + 1 := ⟨i - 1, by omega⟩
        exact nI_pred k
      have e2 : (10 : Int32) - nI xx = nI (10 - xx) := pk_sub (a := 10) hx
      rw [e1, e2, cl_nI (by omega), h1 (i - 1) (by omega), nI_l (by omega), lN_mul]
      exact ⟨vp_nI (by omega) (by decide), key _ (by rw [if_neg hi0])⟩
theorem c_chanceMinute {p xx t : Nat} {al : Nat → Nat → Bool} {rc : Int32} {N : Mm} {f : Nat → Int64} {Q : Mm → Prop} (h0 : isX0 T p) (hx : xx ≤ 10) (ht : t + 1 ≤ 12) (ha : ∀ g, g ≤ 12 → (N.1 (p + 1) g ≤ rc ↔ al (t + 1) g = false)) (h1 : ∀ g, g ≤ 12 → f g = lN (Rn xx al t g)) (hq : ∀ f, (∀ g, g ≤ 12 → f g = lN (Rn xx al (t + 1) g)) → Q (cM N p f)) : WPv T mX0_chanceMinute [.ref p, .int (nI xx), .int (nI (t + 1)), .int rc] (cM N p f) Q := by
  refine WPM.of (by decide) rfl (Nat.le_of_ble_eq_true rfl) (sg_X0_chanceMinute_0 h0 ?_)
  rw [if_neg (show ¬ (12 : Int32) < nI (t + 1) from nI_nlt (a := 12) (by omega) (by omega))]
  simp only [forall_eq]
  rw [show nI (t + 1) = nI (t + 1 + 1) + (-1) from (nI_pm _).symm]
  refine l_cm8 h0 hx ha hq (t + 1 + 1) f (by omega) (fun g hg => h1 g (by omega)) (fun g h3 h4 => ?_)
  rw [h1 g h4, Rn_out t g (by omega), Rn_out (t + 1) g (by omega)]
theorem l_ra81 {p : Nat} {R : Nat → Nat} {N : Mm} {f : Nat → Int64} {Q : Int64 → Mm → Prop} (h0 : isX0 T p) (h1 : ∀ g, g ≤ 12 → f g = lN (R g)) : ∀ (m i s : Nat), i + m = 13 → Q (lN (foldF (fun s g => s + R g) i m s)) (cM N p f) → WP T mX0_runsAhead 81 [(0, .ref p), (5, .long (lN s)), (7, .int (nI i))] [] (cM N p f) (ql Q) := by
  intro m
  induction m with
  | zero =>
    intro i s hi hq
    simp only [foldF] at hq
    exact sg_X0_runsAhead_81 h0 ⟨fun _ => hq, fun z => absurd (nI_lt (a := 12) (by omega) (by omega)) z⟩
  | succ m ih =>
    intro i s hi hq
    simp only [foldF] at hq
    refine sg_X0_runsAhead_81 h0 ⟨fun z => absurd z (nI_nlt (a := 12) (by omega) (by omega)), fun _ => ?_⟩
    rw [cM_r, cl_nI (by omega), h1 i (by omega), lN_add, nI_1]
    simp only [forall_eq]
    exact ⟨vp_nI (by omega) (by decide), ih (i + 1) _ (by omega) hq⟩
theorem c_runsAhead {V l n xx : Nat} {mf : Nat → Nat} {sn : Nat → Int32} {ld : Int32} {N : Mm} {Q : Int64 → Mm → Prop} {g0 : Nat} (hL : LayC T x) (h1 : isX1 T g0) (hG : GrC N g0 G) (hx : xx ≤ 10) (hn : n ≤ 12) (hway : ∀ i, i ≤ 12 → N.1 (x + 8) i = nI (V + (csq mf l i).1)) (hsn : ∀ t, t ≤ 12 → sunW G (N.1 (x + 7) 0 + nI t) ld = sn t)
    (hq : ∀ f, Q (lN (Rs (Rn xx (alF V mf l sn) n))) (cM N (x + 7) f)) : WPl T mX0_runsAhead [.ref (x + 7), .ref g0, .int (nI xx), .int (nI n), .int ld] N Q := by
  have hGc : ∀ f, GrC (cM N (x + 7) f) g0 G := fun f => hG
  have l36 : ∀ (m t : Nat) (f : Nat → Int64), t + m = n → (∀ g, g ≤ 12 → f g = lN (Rn xx (alF V mf l sn) t g)) → WP T mX0_runsAhead 36 [(0, .ref (x + 7)), (1, .ref g0), (2, .int (nI xx)), (3, .int (nI n)), (4, .int ld), (5, .int (nI (t + 1)))] [] (cM N (x + 7) f) (ql Q) := by
    intro m
    induction m with
    | zero =>
      intro t f ht hf
      refine sg_X0_runsAhead_36 hL.ch h1 ⟨fun _ => ?_, fun z => absurd (nI_lt (by omega) (by omega)) z⟩
      rw [show t = n by omega] at hf
      exact l_ra81 (R := Rn xx (alF V mf l sn) n) hL.ch hf 13 0 0 (by omega) (hq f)
    | succ m ih =>
      intro t f ht hf
      refine sg_X0_runsAhead_36 hL.ch h1 ⟨fun z => absurd z (nI_nlt (by omega) (by omega)), fun _ => ⟨fun z => absurd z (nI_nlt (a := 12) (by omega) (by omega)), fun _ => c_sunWay h1 (hGc f) ?_⟩⟩
      have e0 : (cM N (x + 7) f).1 (x + 7) 0 = N.1 (x + 7) 0 := rfl
      rw [e0, hsn (t + 1) (by omega), nI_1 (t + 1)]
      simp only [forall_eq]
      refine c_chanceMinute (t := t) (al := alF V mf l sn) hL.ch hx (by omega) (fun g hg => ?_) hf (fun f2 hf2 => ih (t + 1) f2 (by omega) hf2)
      rw [show x + 7 + 1 = x + 8 by omega, hway g hg]
      unfold alF
      simp
  have l3 : ∀ (m i : Nat) (f : Nat → Int64), i + m = 13 → (∀ g, g < i → f g = lN (Rn xx (alF V mf l sn) 0 g)) → WP T mX0_runsAhead 3 [(0, .ref (x + 7)), (1, .ref g0), (2, .int (nI xx)), (3, .int (nI n)), (4, .int ld), (5, .int (nI i))] [] (cM N (x + 7) f) (ql Q) := by
    intro m
    induction m with
    | zero =>
      intro i f hi hf
      exact sg_X0_runsAhead_3 hL.ch h1 ⟨fun _ => l36 n 0 f (by omega) (fun g hg => hf g (by omega)), fun z => absurd (nI_lt (a := 12) (by omega) (by omega)) z⟩
    | succ m ih =>
      intro i f hi hf
      refine sg_X0_runsAhead_3 hL.ch h1 ⟨fun z => absurd z (nI_nlt (a := 12) (by omega) (by omega)), fun _ => ?_⟩
      rw [cl_nI (by omega), cM_s, cM_s, nI_1]
      simp only [forall_eq]
      have nx : ∀ v : Int64, v = lN (Rn xx (alF V mf l sn) 0 i) → ∀ g, g < i + 1 → ul f i v g = lN (Rn xx (alF V mf l sn) 0 g) := fun v hv g hg => by
        unfold ul
        by_cases e : g = i
        · rw [if_pos e, e]; exact hv
        · rw [if_neg e]; exact hf g (by omega)
      refine ⟨fun z => ⟨vp_nI (by omega) (by decide), ih (i + 1) _ (by omega) (nx _ ?_)⟩, fun z => ⟨vp_nI (by omega) (by decide), ih (i + 1) _ (by omega) (nx _ ?_)⟩⟩
      · simp only [Rn]
        rw [if_neg (fun e => z (by rw [e]; rfl))]; rfl
      · have : i = 0 := by
          by_cases e : i = 0
          · exact e
          · exact absurd z (nI_ne0 (by omega) (by omega))
        simp only [Rn]
        rw [if_pos this]; rfl
  refine WPM.of (by decide) rfl (Nat.le_of_ble_eq_true rfl) (sg_X0_runsAhead_0 hL.ch h1 ?_)
  have h := l3 13 0 (N.2.1 (x + 7 + 2)) (by omega) (fun g hg => by omega)
  rw [cM_self] at h
  exact h
theorem c_power {n : Nat} {Q : Int64 → Mm → Prop} (hn : n ≤ 12) (hq : Q (lN (10 ^ n)) M) : WPl T mX6_powerOfTen [.int (nI n)] M Q := by
  have l4 : ∀ (m i : Nat), i + m = n → WP T mX6_powerOfTen 4 [(0, .int (nI n)), (1, .long (lN (10 ^ i))), (3, .int (nI i))] [] M (ql Q) := by
    intro m
    induction m with
    | zero =>
      intro i hi
      refine sg_X6_powerOfTen_4 ⟨fun _ => ?_, fun z => absurd (nI_le (by omega) (by omega)) z⟩
      rw [show i = n by omega]; exact hq
    | succ m ih =>
      intro i hi
      refine sg_X6_powerOfTen_4 ⟨fun z => absurd z (nI_ge (by omega) (by omega)), fun _ => ⟨fun z => absurd z (nI_ge (b := 12) (by omega) (by omega)), fun _ => ?_⟩⟩
      rw [nI_1, show lN (10 ^ i) * 10 = lN (10 ^ (i + 1)) by rw [Nat.pow_succ]; exact lN_mul (10 ^ i) 10]
      simp only [forall_eq]
      exact ih (i + 1) (by omega)
  exact WPM.of (by decide) rfl (Nat.le_of_ble_eq_true rfl) (sg_X6_powerOfTen_0 (l4 n 0 (by omega)))
theorem c_common {a b : Nat} {Q : Int64 → Mm → Prop} (ha : a < 2 ^ 50) (hb : b < 2 ^ 50) (hq : Q (lN (Nat.gcd b a)) M) : WPl T mX6_commonDivisor [.long (lN a), .long (lN b)] M Q := by
  have l9 : ∀ (f a b : Nat), f ≤ 100 → a < 2 ^ 50 → b < 2 ^ 50 → Q (lN (euc f a b)) M → WP T mX6_commonDivisor 9 [(4, .long (lN a)), (6, .long (lN b)), (8, .int (nI (100 - f)))] [] M (ql Q) := by
    intro f
    induction f with
    | zero =>
      intro a b hf ha hb hq
      exact sg_X6_commonDivisor_9 ⟨fun _ => hq, fun z => absurd (nI_le (a := 100) (by omega) (by omega)) z⟩
    | succ f ih =>
      intro a b hf ha hb hq
      simp only [euc] at hq
      refine sg_X6_commonDivisor_9 ⟨fun z => absurd z (nI_ge (b := 100) (by omega) (by omega)), fun _ => ?_⟩
      have hz : lN b = 0 ↔ b = 0 := pk_lEQ (b := 0) (by omega) (by omega)
      rw [lg_cmp_eq, hz]
      refine ⟨fun z => by rw [if_pos z] at hq; exact hq, fun z => ⟨z, ?_⟩⟩
      rw [pk_lRem (by omega) (by omega) (by omega), nI_1, show 100 - (f + 1) + 1 = 100 - f by omega]
      simp only [forall_eq]
      rw [if_neg z] at hq
      exact ih b (a % b) (by omega) hb (by have := Nat.mod_lt a (show 0 < b by omega); omega) hq
  refine WPM.of (by decide) rfl (Nat.le_of_ble_eq_true rfl) (sg_X6_commonDivisor_0 (l9 100 a b (by omega) ha hb ?_))
  rw [euc_gcd 50 a b 100 hb (by omega)]
  exact hq
end
