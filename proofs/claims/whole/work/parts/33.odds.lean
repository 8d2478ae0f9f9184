section
variable {T : Th} {y : Nat} {M : Mm} {G B : Blk}
theorem l_odd84 {x1 x2 x3 x4 x5 x6 x7 : Int32} {w : Nat → Int64} {a b : Int64} {Q : Mm → Prop} (h7 : isX7 T y) (hq : ∀ u, (∀ k, k < 112 → u k = lN 0) → WP T mX7_findOdds 108 [(0, .ref y), (1, .int x1), (2, .int x2), (3, .int x3), (4, .int x4), (5, .int x5), (6, .int x6), (7, .int x7), (8, .int 0)] [] (oM M y w u a b) (qv Q)) :
    ∀ (m i : Nat) (u : Nat → Int64), i + m = 112 → (∀ k, k < i → u k = lN 0) → WP T mX7_findOdds 84 [(0, .ref y), (1, .int x1), (2, .int x2), (3, .int x3), (4, .int x4), (5, .int x5), (6, .int x6), (7, .int x7), (8, .int (nI i))] [] (oM M y w u a b) (qv Q) := by
  intro m
  induction m with
  | zero =>
    intro i u hi hu
    exact sg_X7_findOdds_84 h7 ⟨fun _ => hq u (fun k hk => hu k (by omega)), fun z => absurd (nI_le (a := 112) (by omega) (by omega)) z⟩
  | succ m ih =>
    intro i u hi hu
    refine sg_X7_findOdds_84 h7 ⟨fun z => absurd z (nI_ge (b := 112) (by omega) (by omega)), fun _ => ?_⟩
    rw [cl_nI (by omega), oM_s25, nI_1]
    simp only [forall_eq]
    refine ⟨vp_nI (by omega) (by decide), ih (i + 1) _ (by omega) (fun k hk => ?_)⟩
    unfold ul
    by_cases e : k = i
    · rw [if_pos e]; rfl
    · rw [if_neg e]; exact hu k (by omega)
theorem l_odd269 {x1 x2 x3 x4 x5 : Int32} {t : Nat} {u : Nat → Int64} {a b : Int64} {Q : Mm → Prop} (h7 : isX7 T y) (hq : ∀ w, (∀ k, k < 112 → w k = u k) → WP T mX7_findOdds 57 [(0, .ref y), (1, .int x1), (2, .int x2), (3, .int x3), (4, .int x4), (5, .int x5), (6, .int (nI (t + 1)))] [] (oM M y w u a (b * 10)) (qv Q)) :
    ∀ (m i : Nat) (w : Nat → Int64), i + m = 112 → (∀ k, k < i → w k = u k) → WP T mX7_findOdds 269 [(0, .ref y), (1, .int x1), (2, .int x2), (3, .int x3), (4, .int x4), (5, .int x5), (6, .int (nI t)), (8, .int (nI i))] [] (oM M y w u a b) (qv Q) := by
  intro m
  induction m with
  | zero =>
    intro i w hi hw
    refine sg_X7_findOdds_269 h7 ⟨fun _ => ?_, fun z => absurd (nI_le (a := 112) (by omega) (by omega)) z⟩
    rw [oM_38, oM_s38, nI_1]
    simp only [forall_eq]
    exact hq w (fun k hk => hw k (by omega))
  | succ m ih =>
    intro i w hi hw
    refine sg_X7_findOdds_269 h7 ⟨fun z => absurd z (nI_ge (b := 112) (by omega) (by omega)), fun _ => ?_⟩
    rw [cl_nI (by omega), oM_25, oM_s24, nI_1 i]
    simp only [forall_eq]
    refine ⟨vp_nI (by omega) (by decide), vp_nI (by omega) (by decide), ih (i + 1) _ (by omega) (fun k hk => ?_)⟩
    unfold ul
    by_cases e : k = i
    · rw [if_pos e, e]
    · rw [if_neg e]; exact hw k (by omega)
theorem l_odd322 {w u : Nat → Int64} {U : Nat → Nat} {b : Int64} {Q : Mm → Prop} (h7 : isX7 T y) (hw : ∀ k, k < 112 → w k = lN (U k)) :
    ∀ (m i s : Nat), i + m = 112 → Q (oM M y w u (lN (foldF (fun s k => s + U k) i m s)) b) → WP T mX7_findOdds 322 [(0, .ref y), (6, .int (nI i))] [] (oM M y w u (lN s) b) (qv Q) := by
  intro m
  induction m with
  | zero =>
    intro i s hi hq
    simp only [foldF] at hq
    exact sg_X7_findOdds_322 h7 ⟨fun _ => hq, fun z => absurd (nI_le (a := 112) (by omega) (by omega)) z⟩
  | succ m ih =>
    intro i s hi hq
    simp only [foldF] at hq
    refine sg_X7_findOdds_322 h7 ⟨fun z => absurd z (nI_ge (b := 112) (by omega) (by omega)), fun _ => ?_⟩
    rw [cl_nI (by omega), oM_24, oM_37, oM_s37, hw i (by omega), lN_add, nI_1]
    simp only [forall_eq]
    exact ⟨vp_nI (by omega) (by decide), ih (i + 1) _ (by omega) hq⟩
theorem l_odd57 {j V l xx n : Nat} {nr : Int32} {sn : Nat → Int32} {Q : Mm → Prop} (h7 : isX7 T y) (hG : RG M y G) (hW : WG G) (hj : j < nW G) (hV : V ≤ 9000) (hl : l ≤ 7) (hx : xx ≤ 10) (hn : n ≤ 12)
    (hsn : ∀ t, t ≤ 12 → sunW G (M.1 (y + 17) 0 + nI t) (G 0 2) + nr = sn t)
    (hq : ∀ w u, Q (oM M y w u (lN (Rs (Rn xx (alF V (mnF G j V) l sn) n))) (lN (10 ^ n)))) :
    ∀ (m t : Nat) (w u : Nat → Int64) (a : Int64) (U : Nat → Nat), t + m = n → (∀ k, k < 112 → w k = lN (U k)) → (∀ g, g ≤ 12 → U (csK (mnF G j V) l g) = Rn xx (alF V (mnF G j V) l sn) t g) → (∀ k, (∀ g, g ≤ 12 → csK (mnF G j V) l g ≠ k) → U k = 0) → WP T mX7_findOdds 57 [(0, .ref y), (1, .int (nI j)), (2, .int (nI xx)), (3, .int (nI n)), (4, .int nr), (5, .int (nI V)), (6, .int (nI (t + 1)))] [] (oM M y w u a (lN (10 ^ t))) (qv Q) := by
  have hmf : ∀ a, a ≤ 13 → mnF G j V a ≤ 7 := fun a ha => (mn_nI hW hj (by omega)).2
  have kl : ∀ g, g ≤ 12 → csK (mnF G j V) l g < 104 := fun g hg => by have := csq_in hmf hl g (by omega); unfold csK; omega
  have ki : ∀ g h, g ≤ 12 → h ≤ 12 → csK (mnF G j V) l g = csK (mnF G j V) l h → g = h := fun g h a b e => csK_inj hmf hl (by omega) (by omega) e
  intro m
  induction m with
  | zero =>
    intro t w u a U ht hw h1 h2
    refine sg_X7_findOdds_57 h7 ⟨fun _ => ?_, fun z => absurd (nI_lt (by omega) (by omega)) z⟩
    rw [oM_s37]
    simp only [forall_eq]
    refine l_odd322 (U := U) h7 hw 112 0 0 (by omega) ?_
    rw [fold_code (K := csK (mnF G j V) l) (fun g hg => by have := kl g hg; omega) ki h1 h2, show t = n by omega]
    exact hq w u
  | succ m ih =>
    intro t w u a U ht hw h1 h2
    have hG2 : RG (oM M y w u a (lN (10 ^ t))) y G := hG
    refine sg_X7_findOdds_57 h7 ⟨fun z => absurd z (nI_nlt (by omega) (by omega)), fun _ => r_sunAt h7 hG2 hW ?_⟩
    have e0 : (oM M y w u a (lN (10 ^ t))).1 (y + 17) 0 = M.1 (y + 17) 0 := rfl
    rw [e0, hsn (t + 1) (by omega)]
    simp only [forall_eq]
    refine l_odd84 h7 (fun u2 hu2 => ?_) 112 0 u (by omega) (fun k hk => by omega)
    refine l_odd108 (t := t) (sn := sn) h7 hG hW hj hV hl hx (by omega) hw h1 h2 (fun u3 U3 hu3 ho => ?_) 104 0 u2 (fun _ => 0) (by omega) hu2 ⟨fun h hh => ?_, fun _ _ => rfl⟩
    · refine l_odd269 h7 (fun w4 hw4 => ?_) 112 0 w (by omega) (fun k hk => by omega)
      rw [show lN (10 ^ t) * 10 = lN (10 ^ (t + 1)) by rw [Nat.pow_succ]; exact lN_mul (10 ^ t) 10]
      refine ih (t + 1) w4 u3 a U3 (by omega) (fun k hk => by rw [hw4 k hk]; exact hu3 k hk) (fun g hg => ?_) ho.2
      rw [ho.1 g hg]
      simp only [Rn]
      rw [if_pos (kl g hg), if_pos (kl (g - 1) (by omega))]
    · split
      · simp
      · rfl
theorem r_findOdds {j V l xx n : Nat} {nr : Int32} {sn : Nat → Int32} {Q : Mm → Prop} (h7 : isX7 T y) (hG : RG M y G) (hW : WG G) (hr : Rw (nW G) B (M.1 (y + 17))) (hj : j < nW G) (hV : V ≤ 9000) (hl : l ≤ 7) (e1 : B 1 j = nI V) (e3 : B 3 j = nI l) (hx : xx ≤ 10) (hn : n ≤ 12)
    (hsn : ∀ t, t ≤ 12 → sunW G (B 0 0 + nI t) (G 0 2) + nr = sn t)
    (hq : ∀ w u, Q (oM M y w u (lN (Rs (Rn xx (alF V (mnF G j V) l sn) n))) (lN (10 ^ n)))) : WPv T mX7_findOdds [.ref y, .int (nI j), .int (nI xx), .int (nI n), .int nr] M Q := by
  have h5 := nW_le G
  obtain ⟨a1, a2, a3, a4, a5, a6⟩ := hr.2 j hj
  have l3 : ∀ (m i : Nat) (w : Nat → Int64), i + m = 112 → (∀ k, k < i → w k = lN 0) → WP T mX7_findOdds 3 [(0, .ref y), (1, .int (nI j)), (2, .int (nI xx)), (3, .int (nI n)), (4, .int nr), (5, .int (nI i))] [] (oM M y w (M.2.1 (y + 25)) (M.2.1 y 37) (M.2.1 y 38)) (qv Q) := by
    intro m
    induction m with
    | zero =>
      intro i w hi hw
      refine sg_X7_findOdds_3 h7 ⟨fun _ => ?_, fun z => absurd (nI_le (a := 112) (by omega) (by omega)) z⟩
      have e0 : ∀ (w u : Nat → Int64) (a b : Int64), (oM M y w u a b).1 (y + 17) = M.1 (y + 17) := fun _ _ _ _ => rfl
      rw [e0, p_6, p_1, cl_nI (by omega), a2, e3, cl_nI (by omega), oM_s24]
      simp only [forall_eq]
      rw [oM_s38, e0, cl_nI (by omega), a1, e1]
      refine ⟨vp_nI (by omega) (by decide), vp_nI (by omega) (by decide), vp_nI (by omega) (by decide), ?_⟩
      refine l_odd57 (sn := sn) h7 hG hW hj hV hl hx hn (by rw [hr.1]; exact hsn) hq n 0 _ _ _ (fun k => if k = l then 1 else 0) (by omega) (fun k hk => ?_) (fun g hg => ?_) (fun k hk => ?_)
      · unfold ul
        by_cases e : k = l
        · rw [if_pos e, if_pos e]; rfl
        · rw [if_neg e, if_neg e]; exact hw k (by omega)
      · have hmf : ∀ a, a ≤ 13 → mnF G j V a ≤ 7 := fun a ha => (mn_nI hW hj (by omega)).2
        simp only [Rn]
        have k0 : csK (mnF G j V) l 0 = l := by simp [csK, csq]
        by_cases e : g = 0
        · rw [e, k0, if_pos rfl, if_pos rfl]
        · rw [if_neg (fun z => e (csK_inj (h := 0) hmf hl (by omega) (by omega) (z.trans k0.symm))), if_neg e]
      · have k0 : csK (mnF G j V) l 0 = l := by simp [csK, csq]
        rw [if_neg (fun z => hk 0 (by omega) (k0.trans z.symm))]
    | succ m ih =>
      intro i w hi hw
      refine sg_X7_findOdds_3 h7 ⟨fun z => absurd z (nI_ge (b := 112) (by omega) (by omega)), fun _ => ?_⟩
      rw [cl_nI (by omega), oM_s24, nI_1]
      simp only [forall_eq]
      refine ⟨vp_nI (by omega) (by decide), ih (i + 1) _ (by omega) (fun k hk => ?_)⟩
      unfold ul
      by_cases e : k = i
      · rw [if_pos e]; rfl
      · rw [if_neg e]; exact hw k (by omega)
  refine WPM.of (by decide) rfl (Nat.le_of_ble_eq_true rfl) (sg_X7_findOdds_0 h7 ?_)
  have h := l3 112 0 (M.2.1 (y + 24)) (by omega) (fun k hk => by omega)
  rw [oM_self] at h
  exact h
theorem l_rgcd {x4 : Int32} {Q : Int64 → Mm → Prop} (h7 : isX7 T y) : ∀ (b a f : Nat), b < f → a < 2 ^ 50 → b < 2 ^ 50 → 0 < Nat.gcd b a → (Q ((if x4 = 0 then M.2.1 y 37 else M.2.1 y 38) / lN (Nat.gcd b a)) M) → WP T mX7_odds 61 [(0, .ref y), (4, .int x4), (5, .long (lN a)), (7, .long (lN b))] [] M (ql Q) := by
  intro b a f
  induction f generalizing b a with
  | zero => intro h; omega
  | succ f ih =>
    intro hf ha hb h0 hq
    refine sg_X7_odds_61 h7 ?_
    have hz : lN b = 0 ↔ b = 0 := pk_lEQ (b := 0) (by omega) (by omega)
    rw [lg_cmp_eq, hz]
    refine ⟨fun z => ?_, fun z => ⟨z, ?_⟩⟩
    · subst z
      rw [Nat.gcd_zero_left] at h0 hq
      have hne : ¬ lN a = 0 := fun e => by rw [show (0 : Int64) = lN 0 from rfl, pk_lEQ (by omega) (by omega)] at e; omega
      exact ⟨fun z2 => ⟨hne, by rw [if_neg z2] at hq; exact hq⟩, fun z2 => ⟨hne, by rw [if_pos z2] at hq; exact hq⟩⟩
    · rw [pk_lRem (by omega) (by omega) (by omega)]
      simp only [forall_eq]
      have hlt := Nat.mod_lt a (show 0 < b by omega)
      rw [Nat.gcd_rec] at h0 hq
      exact ih (a % b) b (by omega) hb (by omega) h0 hq
end
section
variable {T T' : Th} {x y : Nat} {M M' : Mm}
def askd (G : Blk) (w v n : Int32) : Bool := hasWg G w && decide (0 ≤ v ∧ v ≤ 10 ∧ 0 ≤ n ∧ n ≤ 12)
theorem c_isChance {G F : Blk} {S : Stt} {I : Nat → Bool × Stt} {tn : Nat} {tb : Nat → Int32} {tr : Int64} {w v n : Int32} {Q : Int32 → Mm → Prop} (hL : LayC T x) (hC : CI x M G F S I tn tb tr) (hq : Q (b2i (askd G w v n)) M) : WPi T mX6_isChance [.ref x, .int w, .int v, .int n] M Q := by
  refine WPM.of (by decide) rfl (Nat.le_of_ble_eq_true rfl) (sg_X6_isChance_0 hL.1 ?_)
  simp only [forall_eq]
  refine ⟨hC.isG hL, c_hasWagon (hC.isG hL) hC.2.1 ?_⟩
  unfold askd at hq
  cases hw : hasWg G w
  · rw [hw] at hq
    exact ⟨fun _ => hq, fun z => absurd rfl z⟩
  · rw [hw, Bool.true_and] at hq
    have no : ¬ (0 ≤ v ∧ v ≤ 10 ∧ 0 ≤ n ∧ n ≤ 12) → Q 0 M := fun h => by rw [decide_eq_false h] at hq; exact hq
    have ye : (0 ≤ v ∧ v ≤ 10 ∧ 0 ≤ n ∧ n ≤ 12) → Q 1 M := fun h => by rw [decide_eq_true h] at hq; exact hq
    exact ⟨fun z => absurd z (by decide), fun _ => ⟨fun z1 => no (by grind), fun z1 => ⟨fun z2 => no (by grind), fun z2 => ⟨fun z3 => no (by grind), fun z3 => ⟨fun z4 => no (by grind), fun z4 => ye (by grind)⟩⟩⟩⟩⟩
theorem r_isAsked {G : Blk} {w v n : Int32} {Q : Int32 → Mm → Prop} (h7 : isX7 T y) (hG : RG M y G) (hW : WG G) (hq : Q (b2i (askd G w v n)) M) : WPi T mX7_isAsked [.ref y, .int w, .int v, .int n] M Q := by
  refine WPM.of (by decide) rfl (Nat.le_of_ble_eq_true rfl) (sg_X7_isAsked_0 h7 (r_isWagon h7 hG hW ?_))
  unfold askd at hq
  cases hw : hasWg G w
  · rw [hw] at hq
    exact ⟨fun _ => hq, fun z => absurd rfl z⟩
  · rw [hw, Bool.true_and] at hq
    have no : ¬ (0 ≤ v ∧ v ≤ 10 ∧ 0 ≤ n ∧ n ≤ 12) → Q 0 M := fun h => by rw [decide_eq_false h] at hq; exact hq
    have ye : (0 ≤ v ∧ v ≤ 10 ∧ 0 ≤ n ∧ n ≤ 12) → Q 1 M := fun h => by rw [decide_eq_true h] at hq; exact hq
    refine ⟨fun z => absurd z (by decide), fun _ => r_in ⟨fun z => no ?_, fun z => r_in ⟨fun z2 => no ?_, fun z2 => ye ?_⟩⟩⟩
    all_goals grind
theorem askd_nI {G : Blk} {w v n : Int32} (hW : WG G) (h : askd G w v n = true) : ∃ j xx m, j < nW G ∧ xx ≤ 10 ∧ m ≤ 12 ∧ w = nI j ∧ v = nI xx ∧ n = nI m := by
  unfold askd at h
  simp only [Bool.and_eq_true, decide_eq_true_eq] at h
  obtain ⟨h1, h2, h3, h4, h5⟩ := h
  obtain ⟨j, j1, j2, j3⟩ := hasWg_nI hW h1
  obtain ⟨a, a1, a2⟩ := nI_of2 (M := 10) (n := 10) rfl (Int32.not_lt.mpr h2) h3
  obtain ⟨b, b1, b2⟩ := nI_of2 (M := 12) (n := 12) rfl (Int32.not_lt.mpr h4) h5
  exact ⟨j, a, b, j1, a1, b1, j2, a2, b2⟩
theorem Wb.wl {n t w : Nat} {B : Blk} (h : Wb n B t) (ht : t ≤ 999) (hw : w < n) : ∃ V l, V ≤ 9000 ∧ l ≤ 7 ∧ B 1 w = nI V ∧ B 3 w = nI l := by
  obtain ⟨q1, q2, q3, q4⟩ := h.2.2 w hw
  obtain ⟨V, v1, v2⟩ := nI_of2 (M := nI (20 + 5 * t)) (n := 20 + 5 * t) (nI_toInt (by omega)) (Int32.not_lt.mpr q1) q2
  obtain ⟨l, l1, l2⟩ := nI_of2 (M := 7) (n := 7) rfl (Int32.not_lt.mpr q3) q4
  exact ⟨V, l, by omega, l1, v2, l2⟩
end
