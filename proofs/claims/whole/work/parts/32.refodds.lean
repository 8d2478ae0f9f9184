/-! THE REFERENCE's ODDS -/
def oM (M : Mm) (y : Nat) (w u : Nat → Int64) (a b : Int64) : Mm := (M.1, fun q k => if q = y + 24 then w k else if q = y + 25 then u k else if q = y ∧ k = 37 then a else if q = y ∧ k = 38 then b else M.2.1 q k, M.2.2)
section
variable {M : Mm} {y k : Nat} {w u : Nat → Int64} {a b v : Int64}
theorem oM_24 : (oM M y w u a b).2.1 (y + 24) = w := by funext j; simp [oM]
theorem oM_25 : (oM M y w u a b).2.1 (y + 25) = u := by funext j; simp [oM]
theorem oM_37 : (oM M y w u a b).2.1 y 37 = a := by simp [oM]
theorem oM_38 : (oM M y w u a b).2.1 y 38 = b := by simp [oM]
theorem oM_s24 : sL (oM M y w u a b) (y + 24) k v = oM M y (ul w k v) u a b := by
  refine Prod.ext rfl (Prod.ext ?_ rfl)
  funext q j
  simp only [sL, oM, ul]
  grind
theorem oM_s25 : sL (oM M y w u a b) (y + 25) k v = oM M y w (ul u k v) a b := by
  refine Prod.ext rfl (Prod.ext ?_ rfl)
  funext q j
  simp only [sL, oM, ul]
  grind
theorem oM_s37 : sL (oM M y w u a b) y 37 v = oM M y w u v b := by
  refine Prod.ext rfl (Prod.ext ?_ rfl)
  funext q j
  simp only [sL, oM]
  grind
theorem oM_s38 : sL (oM M y w u a b) y 38 v = oM M y w u a v := by
  refine Prod.ext rfl (Prod.ext ?_ rfl)
  funext q j
  simp only [sL, oM]
  grind
theorem oM_self : oM M y (M.2.1 (y + 24)) (M.2.1 (y + 25)) (M.2.1 y 37) (M.2.1 y 38) = M := by
  refine Prod.ext rfl (Prod.ext ?_ rfl)
  funext q j
  simp only [oM]
  grind
theorem oM_FrR : FrR y M (oM M y w u a b) := ⟨fun _ _ _ => rfl, rfl, by simp [oM]⟩
theorem oM_oM {w' u' : Nat → Int64} {a' b' : Int64} : oM (oM M y w u a b) y w' u' a' b' = oM M y w' u' a' b' := by
  refine Prod.ext rfl (Prod.ext ?_ rfl)
  funext q j
  simp only [oM]
  grind
end
def addU (U : Nat → Nat) (k v : Nat) : Nat → Nat := fun j => if j = k then U j + v else U j
theorem addU_l {U : Nat → Nat} {f : Nat → Int64} {k v : Nat} {N : Nat} (h : ∀ j, j < N → f j = lN (U j)) (hk : k < N) : ∀ j, j < N → ul f k (f k + lN v) j = lN (addU U k v j) := fun j hj => by
  unfold ul addU
  by_cases e : j = k
  · rw [if_pos e, if_pos e, h k hk, lN_add, e]
  · rw [if_neg e, if_neg e]; exact h j hj
/-- codes up to m are done -/
def OW (K R : Nat → Nat) (al : Nat → Bool) (x m : Nat) (U : Nat → Nat) : Prop :=
  (∀ h, h ≤ 12 → U (K h) = if al h then (if K h < m then R h * x else 0) + (if h = 0 then 0 else if K (h - 1) < m then R (h - 1) * (10 - x) else 0) else 0) ∧ ∀ k, (∀ h, h ≤ 12 → K h ≠ k) → U k = 0
theorem OW.skip {K R : Nat → Nat} {al : Nat → Bool} {x m : Nat} {U V : Nat → Nat} (h : OW K R al x m U) (h1 : ∀ g, g ≤ 12 → V (K g) = R g) (hm : V m = 0) : OW K R al x (m + 1) U := by
  refine ⟨fun g hg => ?_, h.2⟩
  rw [h.1 g hg]
  have a : ∀ q, q ≤ 12 → ∀ z, (if K q < m + 1 then R q * z else 0) = if K q < m then R q * z else 0 := fun q hq z => by
    by_cases e : K q = m
    · have : R q = 0 := by rw [← h1 q hq, e]; exact hm
      rw [this]; simp
    · by_cases e2 : K q < m
      · rw [if_pos (by omega), if_pos e2]
      · rw [if_neg (by omega), if_neg e2]
  rw [a g hg, a (g - 1) (by omega)]
def nxU (K R : Nat → Nat) (al : Nat → Bool) (x g : Nat) (U : Nat → Nat) : Nat → Nat :=
  if al (g + 1) then addU (if al g then addU U (K g) (R g * x) else U) (K (g + 1)) (R g * (10 - x)) else (if al g then addU U (K g) (R g * x) else U)
theorem OW.step {K R : Nat → Nat} {al : Nat → Bool} {x g : Nat} {U : Nat → Nat} (hi : ∀ g h, g ≤ 12 → h ≤ 12 → K g = K h → g = h) (hg : g + 1 ≤ 12) (h : OW K R al x (K g) U) : OW K R al x (K g + 1) (nxU K R al x g U) := by
  have ev : ∀ k, nxU K R al x g U k = U k + (if al g = true ∧ k = K g then R g * x else 0) + (if al (g + 1) = true ∧ k = K (g + 1) then R g * (10 - x) else 0) := fun k => by
    unfold nxU addU
    cases al g <;> cases al (g + 1) <;> simp <;> (try split) <;> (try split) <;> simp_all <;> omega
  have lt : ∀ q, q ≤ 12 → q ≠ g → (K q < K g + 1 ↔ K q < K g) := fun q hq hne => by
    have : K q ≠ K g := fun e => hne (hi q g hq (by omega) e)
    omega
  refine ⟨fun q hq => ?_, fun k hk => ?_⟩
  · rw [ev, h.1 q hq]
    by_cases e : q = g
    · subst e
      have hne : ¬ K q = K (q + 1) := fun z => by have := hi q (q + 1) hq hg z; omega
      have hp : ¬ q = 0 → (K (q - 1) < K q + 1 ↔ K (q - 1) < K q) := fun z => lt (q - 1) (by omega) (by omega)
      cases al q
      · simp [hne]
      · simp only [true_and, if_true, hne, and_false, if_false, Nat.lt_irrefl]
        rw [if_pos (Nat.lt_succ_self _)]
        by_cases z : q = 0
        · rw [if_pos z, if_pos z]; omega
        · rw [if_neg z, if_neg z]
          simp only [hp z]
          omega
    · have h1 := lt q hq e
      have hne : ¬ K q = K g := fun z => e (hi q g hq (by omega) z)
      by_cases e2 : q = g + 1
      · subst e2
        cases al (g + 1)
        · simp [hne]
        · have g0 : ¬ g + 1 = 0 := by omega
          have gl : K g < K g + 1 := Nat.lt_succ_self _
          simp only [true_and, if_true, hne, and_false, if_false, Nat.add_sub_cancel, Nat.lt_irrefl, g0, gl, h1]
          omega
      · have hne2 : ¬ K q = K (g + 1) := fun z => e2 (hi q (g + 1) hq hg z)
        simp only [hne, hne2, and_false, if_false, Nat.add_zero]
        cases al q
        · simp
        · simp only [if_true, h1]
          by_cases z : q = 0
          · rw [if_pos z, if_pos z]
          · rw [if_neg z, if_neg z]
            have := lt (q - 1) (by omega) (by omega)
            simp only [this]
  · rw [ev, h.2 k hk, if_neg (fun z => hk g (by omega) z.2.symm), if_neg (fun z => hk (g + 1) hg z.2.symm)]
section
variable {T : Th} {y : Nat} {M : Mm} {G B : Blk}
/-- the step of one code -/
theorem l_odd108 {j V l xx t n : Nat} {nr : Int32} {sn : Nat → Int32} {w : Nat → Int64} {U : Nat → Nat} {a b : Int64} {Q : Mm → Prop} (h7 : isX7 T y) (hG : RG M y G) (hW : WG G) (hj : j < nW G) (hV : V ≤ 9000) (hl : l ≤ 7) (hx : xx ≤ 10) (ht : t + 1 ≤ 12)
    (hw : ∀ k, k < 112 → w k = lN (U k)) (hU1 : ∀ g, g ≤ 12 → U (csK (mnF G j V) l g) = Rn xx (alF V (mnF G j V) l sn) t g) (hU2 : ∀ k, (∀ g, g ≤ 12 → csK (mnF G j V) l g ≠ k) → U k = 0)
    (hq : ∀ u U2, (∀ k, k < 112 → u k = lN (U2 k)) → OW (csK (mnF G j V) l) (Rn xx (alF V (mnF G j V) l sn) t) (alF V (mnF G j V) l sn (t + 1)) xx 104 U2 → WP T mX7_findOdds 269 [(0, .ref y), (1, .int (nI j)), (2, .int (nI xx)), (3, .int (nI n)), (4, .int nr), (5, .int (nI V)), (6, .int (nI (t + 1))), (8, .int 0)] [] (oM M y w u a b) (qv Q)) :
    ∀ (d m : Nat) (u : Nat → Int64) (U2 : Nat → Nat), m + d = 104 → (∀ k, k < 112 → u k = lN (U2 k)) → OW (csK (mnF G j V) l) (Rn xx (alF V (mnF G j V) l sn) t) (alF V (mnF G j V) l sn (t + 1)) xx m U2 → WP T mX7_findOdds 108 [(0, .ref y), (1, .int (nI j)), (2, .int (nI xx)), (3, .int (nI n)), (4, .int nr), (5, .int (nI V)), (6, .int (nI (t + 1))), (7, .int (sn (t + 1))), (8, .int (nI m))] [] (oM M y w u a b) (qv Q) := by
  have hmf : ∀ a, a ≤ 13 → mnF G j V a ≤ 7 := fun a ha => (mn_nI hW hj (by omega)).2
  have h5 := nW_le G
  intro d
  induction d with
  | zero =>
    intro m u U2 hm hu ho
    refine sg_X7_findOdds_108 h7 ⟨fun _ => hq u U2 hu ?_, fun z => absurd (nI_le (a := 104) (by omega) (by omega)) z⟩
    rw [show m = 104 by omega] at ho; exact ho
  | succ d ih =>
    intro m u U2 hm hu ho
    refine sg_X7_findOdds_108 h7 ⟨fun z => absurd z (nI_ge (b := 104) (by omega) (by omega)), fun _ => ⟨vp_nI (by omega) (by decide), ?_⟩⟩
    have hz : lN (U m) ≤ 0 ↔ U m = 0 := by
      have hb : U m < 2 ^ 63 := by
        by_cases h : ∃ g, g ≤ 12 ∧ csK (mnF G j V) l g = m
        · obtain ⟨g, g1, g2⟩ := h
          rw [← g2, hU1 g g1]
          have q1 := Rn_le (al := alF V (mnF G j V) l sn) hx t g
          have q2 := p12 (t := t) (by omega)
          omega
        · rw [hU2 m (fun g g1 g2 => h ⟨g, g1, g2⟩)]; decide
      have := pk_lLE (a := U m) (b := 0) hb (by decide)
      rw [show (0 : Int64) = lN 0 from rfl, this]
      omega
    rw [oM_24, oM_25, cl_nI (by omega), hw m (by omega), lg_cmp_le, hz]
    refine ⟨fun z => ?_, fun z => ?_⟩
    · rw [nI_1]
      simp only [forall_eq]
      exact ih (m + 1) u U2 (by omega) hu (ho.skip hU1 z)
    · have hex : ∃ g, g ≤ 12 ∧ csK (mnF G j V) l g = m := by
        by_cases h : ∃ g, g ≤ 12 ∧ csK (mnF G j V) l g = m
        · exact h
        · exact absurd (hU2 m (fun g g1 g2 => h ⟨g, g1, g2⟩)) z
      obtain ⟨g, g1, g2⟩ := hex
      have hUm : U m = Rn xx (alF V (mnF G j V) l sn) t g := by rw [← g2]; exact hU1 g g1
      have hgt : g ≤ t := by
        by_cases h : g ≤ t
        · exact h
        · rw [hUm, Rn_out t g (by omega)] at z; exact absurd rfl z
      obtain ⟨c1, c2⟩ := csq_in hmf hl g (by omega)
      obtain ⟨n1, n2⟩ := csq_in hmf hl (g + 1) (by omega)
      have em : m = 8 * (csq (mnF G j V) l g).1 + (csq (mnF G j V) l g).2 := g2.symm
      have d1 : m / 8 = (csq (mnF G j V) l g).1 := by omega
      have d2 : m % 8 = (csq (mnF G j V) l g).2 := by omega
      have dv : nI m / 8 = nI ((csq (mnF G j V) l g).1) := by rw [← d1]; exact pk_div (d := 8) (by omega) (by omega) (by omega)
      have dm : nI m - nI m / 8 * 8 = nI ((csq (mnF G j V) l g).2) := by rw [← d2]; exact pk_rem (d := 8) (by omega) (by omega) (by omega)
      rw [dm, dv, nI_l (by omega), lN_mul]
      simp only [forall_eq]
      rw [nI_add, oM_s25]
      have hal : ∀ h, alF V (mnF G j V) l sn (t + 1) h = true ↔ ¬ nI (V + (csq (mnF G j V) l h).1) ≤ sn (t + 1) := fun h => by unfold alF; simp
      have ki : ∀ g h, g ≤ 12 → h ≤ 12 → csK (mnF G j V) l g = csK (mnF G j V) l h → g = h := fun g h a b e => csK_inj hmf hl (by omega) (by omega) e
      have ho' : OW (csK (mnF G j V) l) (Rn xx (alF V (mnF G j V) l sn) t) (alF V (mnF G j V) l sn (t + 1)) xx (csK (mnF G j V) l g) U2 := by rw [g2]; exact ho
      have hst := ho'.step ki (by omega)
      rw [g2] at hst
      have kl : csK (mnF G j V) l (g + 1) < 112 := by unfold csK; omega
      have kd : csK (mnF G j V) l (g + 1) / 8 = (csq (mnF G j V) l (g + 1)).1 := by unfold csK; omega
      have fin : ∀ (u3 : Nat → Int64), (∀ k, k < 112 → u3 k = lN ((if alF V (mnF G j V) l sn (t + 1) g then addU U2 m (U m * xx) else U2) k)) → WP T mX7_findOdds 222 [(0, .ref y), (1, .int (nI j)), (2, .int (nI xx)), (3, .int (nI n)), (4, .int nr), (5, .int (nI V)), (6, .int (nI (t + 1))), (7, .int (sn (t + 1))), (8, .int (nI m))] [.int (nI (csK (mnF G j V) l (g + 1)))] (oM M y w u3 a b) (qv Q) := by
        intro u3 h3
        refine sg_X7_findOdds_222 h7 ?_
        have e2 : (10 : Int32) - nI xx = nI (10 - xx) := pk_sub (a := 10) hx
        have dk : nI (csK (mnF G j V) l (g + 1)) / 8 = nI ((csq (mnF G j V) l (g + 1)).1) := by rw [← kd]; exact pk_div (d := 8) (by omega) (by omega) (by omega)
        rw [dk, nI_add, oM_24, oM_25, cl_nI (by omega), cl_nI (by omega), hw m (by omega), e2, nI_l (by omega), lN_mul, oM_s25, nI_1]
        simp only [forall_eq]
        unfold nxU at hst
        rw [g2, ← hUm] at hst
        refine ⟨fun z2 => ?_, fun z2 => ⟨vp_nI kl (by decide), vp_nI (by omega) (by decide), vp_nI kl (by decide), ?_⟩⟩
        · have : alF V (mnF G j V) l sn (t + 1) (g + 1) = false := by
            cases h : alF V (mnF G j V) l sn (t + 1) (g + 1)
            · rfl
            · exact absurd z2 ((hal _).mp h)
          rw [this] at hst
          exact ih (m + 1) u3 _ (by omega) h3 hst
        · rw [(hal (g + 1)).mpr z2, if_pos rfl] at hst
          exact ih (m + 1) _ _ (by omega) (addU_l h3 kl) hst
      have mid : ∀ (u3 : Nat → Int64), (∀ k, k < 112 → u3 k = lN ((if alF V (mnF G j V) l sn (t + 1) g then addU U2 m (U m * xx) else U2) k)) → (2 ≤ nI ((csq (mnF G j V) l g).2) → WP T mX7_findOdds 182 [(0, .ref y), (1, .int (nI j)), (2, .int (nI xx)), (3, .int (nI n)), (4, .int nr), (5, .int (nI V)), (6, .int (nI (t + 1))), (7, .int (sn (t + 1))), (8, .int (nI m)), (9, .int (nI ((csq (mnF G j V) l g).1)))] [.int 0] (oM M y w u3 a b) (qv Q)) ∧ (¬ 2 ≤ nI ((csq (mnF G j V) l g).2) → WP T mX7_findOdds 182 [(0, .ref y), (1, .int (nI j)), (2, .int (nI xx)), (3, .int (nI n)), (4, .int nr), (5, .int (nI V)), (6, .int (nI (t + 1))), (7, .int (sn (t + 1))), (8, .int (nI m)), (9, .int (nI ((csq (mnF G j V) l g).1)))] [.int 1] (oM M y w u3 a b) (qv Q)) := by
        intro u3 h3
        have h2 : (2 : Int32) ≤ nI ((csq (mnF G j V) l g).2) ↔ 2 ≤ (csq (mnF G j V) l g).2 := nI_leI (a := 2) (by omega) (by omega)
        rw [h2]
        refine ⟨fun z2 => sg_X7_findOdds_182 h7 ⟨fun _ => ?_, fun z3 => absurd rfl z3⟩, fun z2 => sg_X7_findOdds_182 h7 ⟨fun z3 => absurd z3 (by decide), fun _ => ?_⟩⟩
        · have e : nI m - 1 = nI (csK (mnF G j V) l (g + 1)) := by
            have : csK (mnF G j V) l (g + 1) + 1 = m := by
              unfold csK
              simp only [csq]
              rw [if_neg (by omega)]
              show 8 * (csq (mnF G j V) l g).1 + ((csq (mnF G j V) l g).2 - 1) + 1 = m
              omega
            rw [← this]; exact nI_pred _
          rw [e]
          exact fin u3 h3
        · have e0 : nI V + nI ((csq (mnF G j V) l g).1) + 1 = nI (V + ((csq (mnF G j V) l g).1 + 1)) := by rw [nI_add, nI_1]; rfl
          rw [e0]
          have hG2 : RG (oM M y w u3 a b) y G := hG
          refine r_costAt h7 hG2 hW (nI_pos' (by omega)) ?_
          have hm := mins_eq hW (nI_pos' (n := V + ((csq (mnF G j V) l g).1 + 1)) (by omega)) hj
          rw [(mn_nI hW hj (by omega)).1] at hm
          have hp : (oM M y w u3 a b).1 (y + 16) j = G 2 j := hG.2.2.2.2.2.2 j hj
          rw [cl_nI (by omega), hp]
          refine ⟨vp_nI (by omega) (by decide), ?_⟩
          have e : ((8 * (nI ((csq (mnF G j V) l g).1) + 1)) + G 1 (plc G (nI (V + ((csq (mnF G j V) l g).1 + 1)))).toNatClampNeg) + G 2 j = nI (csK (mnF G j V) l (g + 1)) := by
            have e1 : (8 : Int32) * (nI ((csq (mnF G j V) l g).1) + 1) = nI (8 * ((csq (mnF G j V) l g).1 + 1)) := by rw [nI_1]; exact pk_mul 8 _
            rw [e1, Int32.add_assoc, ← hm.1, nI_add]
            unfold csK
            simp only [csq]
            rw [if_pos (by omega)]
          rw [e]
          exact fin u3 h3
      refine ⟨fun z2 => mid u ?_, fun z2 => ⟨vp_nI (by omega) (by decide), vp_nI (by omega) (by decide), vp_nI (by omega) (by decide), mid _ ?_⟩⟩
      · have : alF V (mnF G j V) l sn (t + 1) g = false := by
          cases h : alF V (mnF G j V) l sn (t + 1) g
          · rfl
          · exact absurd z2 ((hal _).mp h)
        rw [this]; exact hu
      · rw [(hal g).mpr z2, if_pos rfl]
        exact addU_l hu (by omega)
end
