theorem sun_nr {G : Blk} {T nr : Int32} : sunW G T (G 0 2 - nr) = sunW G T (G 0 2) + nr := by
  unfold sunW
  split <;> grind
theorem Rs_le {xx n : Nat} {al : Nat → Nat → Bool} (hx : xx ≤ 10) (hn : n ≤ 12) : Rs (Rn xx al n) < 2 ^ 50 := by
  have h := fold_le (fun g => Rn_le (al := al) hx n g) 13 0 0
  have h2 := p12 hn
  have h3 : 13 * 10 ^ n ≤ 13 * 1000000000000 := Nat.mul_le_mul_left 13 h2
  unfold Rs
  omega
def keP (V : Nat) (mf : Nat → Nat) (l xx n : Nat) (sb : Nat → Int32) (c : Int32) (q : Nat) : Bool := decide (¬ lg_cmp (10 * lN (Rs (Rn xx (alF V mf l (fun t => sb t + nI q)) n))) (c.toInt64 * lN (10 ^ n)) < 0)
section
variable {T T' : Th} {x y : Nat} {M M' : Mm}
theorem l_ckeep {G F : Blk} {S : Stt} {I : Nat → Bool × Stt} {tn : Nat} {tb : Nat → Int32} {tr : Int64} {V l xx n : Nat} {mf : Nat → Nat} {c : Int32} {Q : Int32 → Mm → Prop} (hL : LayC T x) (hC : CI x M G F S I tn tb tr) (hx : xx ≤ 10) (hn : n ≤ 12) (h0 : M.1 (x + 7) 0 = S.1 0 0) (hway : ∀ i, i ≤ 12 → M.1 (x + 8) i = nI (V + (csq mf l i).1)) :
    ∀ (m : Nat) (f : Nat → Int64), m ≤ 21 → (∀ f', Q (stdF (keP V mf l xx n (fun t => sunW G (S.1 0 0 + nI t) (G 0 2)) c) m) (cM M (x + 7) f')) → WP T mX6_keepAhead 74 [(0, .ref x), (2, .int (nI xx)), (3, .int (nI n)), (5, .long (c.toInt64 * lN (10 ^ n))), (7, .int (nI m + (-1)))] [] (cM M (x + 7) f) (qi Q) := by
  intro m
  induction m with
  | zero =>
    intro f hm hq
    exact sg_X6_keepAhead_74 hL.1 ⟨fun _ => hq f, fun z => absurd (by decide) z⟩
  | succ m ih =>
    intro f hm hq
    rw [nI_pm]
    refine sg_X6_keepAhead_74 hL.1 ⟨fun z => absurd z (nI_pos (by omega)), fun _ => ?_⟩
    simp only [forall_eq]
    have e2 : (cM M (x + 7) f).2.2 = M.2.2 := rfl
    have e1 : (cM M (x + 7) f).1 = M.1 := rfl
    rw [e2, e1, hC.2.1.z]
    refine ⟨hC.isG hL, hC.isG hL, ?_⟩
    refine c_runsAhead (V := V) (l := l) (n := n) (xx := xx) (mf := mf) (sn := fun t => sunW G (S.1 0 0 + nI t) (G 0 2) + nI m) hL (hC.isG hL) (show GrC (cM M (x + 7) f) _ G from hC.2.1) hx hn hway (fun t ht => by rw [show (cM M (x + 7) f).1 (x + 7) 0 = S.1 0 0 from h0]; exact sun_nr) (fun f2 => ?_)
    have e3 : cM (cM M (x + 7) f) (x + 7) f2 = cM M (x + 7) f2 := by
      refine Prod.ext rfl (Prod.ext ?_ rfl)
      funext a k; simp only [cM]; grind
    rw [e3]
    simp only [stdF] at hq
    refine ⟨fun z => ?_, fun z => ?_⟩
    · have hP : keP V mf l xx n (fun t => sunW G (S.1 0 0 + nI t) (G 0 2)) c m = false := decide_eq_false (fun h => h z)
      simp only [hP] at hq
      exact ih f2 (by omega) hq
    · have hP : keP V mf l xx n (fun t => sunW G (S.1 0 0 + nI t) (G 0 2)) c m = true := decide_eq_true z
      simp only [hP, if_true] at hq
      exact hq f2
theorem l_rkeep {G B : Blk} {j V l xx n : Nat} {c : Int32} {Q : Int32 → Mm → Prop} (h7 : isX7 T' y) (hG : RG M' y G) (hW : WG G) (hr : Rw (nW G) B (M'.1 (y + 17))) (hj : j < nW G) (hV : V ≤ 9000) (hl : l ≤ 7) (e1 : B 1 j = nI V) (e3 : B 3 j = nI l) (hx : xx ≤ 10) (hn : n ≤ 12) :
    ∀ (m : Nat) (w u : Nat → Int64) (a b : Int64), m ≤ 21 → (∀ w u a b, Q (stdF (keP V (mnF G j V) l xx n (fun t => sunW G (B 0 0 + nI t) (G 0 2)) c) m) (oM M' y w u a b)) → WP T' mX7_keepAhead 43 [(0, .ref y), (1, .int (nI j)), (2, .int (nI xx)), (3, .int (nI n)), (4, .int c), (5, .int (nI m + (-1)))] [] (oM M' y w u a b) (qi Q) := by
  intro m
  induction m with
  | zero =>
    intro w u a b hm hq
    exact sg_X7_keepAhead_43 h7 ⟨fun _ => hq w u a b, fun z => absurd (by decide) z⟩
  | succ m ih =>
    intro w u a b hm hq
    rw [nI_pm]
    refine sg_X7_keepAhead_43 h7 ⟨fun z => absurd z (nI_pos (by omega)), fun _ => ?_⟩
    refine r_findOdds (G := G) (B := B) (V := V) (l := l) (sn := fun t => sunW G (B 0 0 + nI t) (G 0 2) + nI m) h7 (show RG (oM M' y w u a b) y G from hG) hW hr hj hV hl e1 e3 hx hn (fun t ht => rfl) (fun w2 u2 => ?_)
    rw [oM_37, oM_38, oM_oM]
    simp only [stdF] at hq
    simp only [forall_eq]
    refine ⟨fun z => ?_, fun z => ?_⟩
    · have hP : keP V (mnF G j V) l xx n (fun t => sunW G (B 0 0 + nI t) (G 0 2)) c m = false := decide_eq_false (fun h => h z)
      simp only [hP] at hq
      exact ih w2 u2 _ _ (by omega) hq
    · have hP : keP V (mnF G j V) l xx n (fun t => sunW G (B 0 0 + nI t) (G 0 2)) c m = true := decide_eq_true z
      simp only [hP, if_true] at hq
      exact hq _ _ _ _
theorem e_keepAhead {w v n c : Int32} (hL : LayC T x) (h7 : isX7 T' y) (hI : Inv x y M M') : WPi T mX6_keepAhead [.ref x, .int w, .int v, .int n, .int c] M (fun r N => WPi T' mX7_keepAhead [.ref y, .int w, .int v, .int n, .int c] M' (fun r' N' => r' = r ∧ Inv x y N N')) := by
  have hI' := hI
  obtain ⟨G, F, S, I, tn, tb, tr, hC, hR, hS⟩ := hI
  have h5 := nW_le G
  have hW := hS.1
  have hg := hC.isG hL
  obtain ⟨⟨t, ht, hwb⟩, hws⟩ := hS.2.2.2.1.2.1
  have bad : ¬ (askd G w v n = true ∧ 0 ≤ c ∧ c ≤ 10) → WPi T' mX7_keepAhead [.ref y, .int w, .int v, .int n, .int c] M' (fun r' N' => r' = -1 ∧ Inv x y M N') := by
    intro hb
    refine WPM.of (by decide) rfl (Nat.le_of_ble_eq_true rfl) (sg_X7_keepAhead_0 h7 (r_isAsked h7 hR.1 hW ?_))
    cases ha : askd G w v n
    · exact ⟨fun _ => ⟨rfl, hI'⟩, fun z => absurd rfl z⟩
    · refine ⟨fun z => absurd z (by decide), fun _ => r_in ?_⟩
      rw [if_neg (fun q => hb ⟨ha, q⟩)]
      exact ⟨fun z => absurd rfl z, fun _ => ⟨rfl, hI'⟩⟩
  refine WPM.of (by decide) rfl (Nat.le_of_ble_eq_true rfl) (sg_X6_keepAhead_0 hL.1 (c_isChance hL hC ?_))
  cases ha : askd G w v n
  · exact ⟨fun _ => bad (by simp [ha]), fun z => absurd rfl z⟩
  · refine ⟨fun z => absurd z (by decide), fun _ => ⟨fun z => bad (by grind), fun z => ⟨fun z2 => ?_, fun z2 => bad (by grind)⟩⟩⟩
    have hc : 0 ≤ c ∧ c ≤ 10 := by grind
    obtain ⟨j, xx, m, hj, hx, hm, rfl, rfl, rfl⟩ := askd_nI hW ha
    obtain ⟨V, l, hV, hl, e1, e3⟩ := hwb.wl ht hj
    obtain ⟨a1, a2, a3, a4, a5, a6⟩ := hR.2.2.2.1.1.2 j hj
    have start : ∀ (Q' : Int32 → Mm → Prop), ((¬ bget (S.1 0 1) j = true → WP T' mX7_keepAhead 43 [(0, .ref y), (1, .int (nI j)), (2, .int (nI xx)), (3, .int (nI m)), (4, .int c), (5, .int 20)] [] M' (qi Q')) ∧ (bget (S.1 0 1) j = true → Q' (-2) M')) → WPi T' mX7_keepAhead [.ref y, .int (nI j), .int (nI xx), .int (nI m), .int c] M' Q' := by
      intro Q' hq
      refine WPM.of (by decide) rfl (Nat.le_of_ble_eq_true rfl) (sg_X7_keepAhead_0 h7 (r_isAsked h7 hR.1 hW ?_))
      rw [ha]
      refine ⟨fun z => absurd z (by decide), fun _ => r_in ?_⟩
      rw [if_pos hc, p_21, cl_nI (by omega), a6]
      refine ⟨fun _ => ⟨vp_nI (by omega) (by decide), fun z => hq.1 (fun q => z (by rw [q]; rfl)), fun z => hq.2 ?_⟩, fun z => absurd z (by decide)⟩
      cases hb : bget (S.1 0 1) j
      · rw [hb] at z; exact absurd z (by decide)
      · rfl
    refine c_isCaught hL.st.2.1 ?_
    rw [hC.2.2.2.1.2.1.z]
    by_cases hb : ((S.1 0 1 >>> (nI j &&& 31)) &&& 1) = 1
    · rw [if_pos hb]
      refine ⟨fun z => absurd z (by decide), fun _ => start _ ⟨fun z => absurd (decide_eq_true hb) z, fun _ => ⟨rfl, hI'⟩⟩⟩
    · rw [if_neg hb]
      simp only [forall_eq]
      refine ⟨fun _ => ⟨hg, c_foresee hL hC hW hj hV hl e1 e3 (fun N hf h0 hway => ?_)⟩, fun z => absurd trivial z⟩
      have hC2 := hC.frame hf
      refine c_power hm ?_
      have hk := l_ckeep (m := 21) (f := N.2.1 (x + 7 + 2)) (c := c) (Q := fun r N => WPi T' mX7_keepAhead [.ref y, .int (nI j), .int (nI xx), .int (nI m), .int c] M' (fun r' N' => r' = r ∧ Inv x y N N')) hL hC2 hx hm h0 hway
      rw [cM_self] at hk
      refine hk (by omega) (fun f' => start _ ⟨fun _ => ?_, fun z => absurd (of_decide_eq_true z) hb⟩)
      have hrk := l_rkeep (m := 21) (w := M'.2.1 (y + 24)) (u := M'.2.1 (y + 25)) (a := M'.2.1 y 37) (b := M'.2.1 y 38) (c := c) (Q := fun r' N' => r' = stdF (keP V (mnF G j V) l xx m (fun t => sunW G (S.1 0 0 + nI t) (G 0 2)) c) 21 ∧ Inv x y (cM N (x + 7) f') N') h7 hR.1 hW hR.2.2.2.1.1 hj hV hl e1 e3 hx hm
      rw [oM_self] at hrk
      exact hrk (by omega) (fun w u a b => ⟨rfl, G, F, S, I, tn, tb, tr, hC2.frame cM_FrC, hR.frame oM_FrR, hS⟩)
theorem e_odds {w v n c : Int32} (hL : LayC T x) (h7 : isX7 T' y) (hI : Inv x y M M') : WPl T mX6_odds [.ref x, .int w, .int v, .int n, .int c] M (fun r N => WPl T' mX7_odds [.ref y, .int w, .int v, .int n, .int c] M' (fun r' N' => r' = r ∧ Inv x y N N')) := by
  have hI' := hI
  obtain ⟨G, F, S, I, tn, tb, tr, hC, hR, hS⟩ := hI
  have h5 := nW_le G
  have hW := hS.1
  have hg := hC.isG hL
  obtain ⟨⟨t, ht, hwb⟩, hws⟩ := hS.2.2.2.1.2.1
  have bad : ¬ (askd G w v n = true ∧ 0 ≤ c ∧ c ≤ 1) → WPl T' mX7_odds [.ref y, .int w, .int v, .int n, .int c] M' (fun r' N' => r' = -1 ∧ Inv x y M N') := by
    intro hb
    refine WPM.of (by decide) rfl (Nat.le_of_ble_eq_true rfl) (sg_X7_odds_0 h7 (r_isAsked h7 hR.1 hW ?_))
    cases ha : askd G w v n
    · exact ⟨fun _ => ⟨rfl, hI'⟩, fun z => absurd rfl z⟩
    · refine ⟨fun z => absurd z (by decide), fun _ => r_in ?_⟩
      rw [if_neg (fun q => hb ⟨ha, q⟩)]
      exact ⟨fun z => absurd rfl z, fun _ => ⟨rfl, hI'⟩⟩
  refine WPM.of (by decide) rfl (Nat.le_of_ble_eq_true rfl) (sg_X6_odds_0 hL.1 (c_isChance hL hC ?_))
  cases ha : askd G w v n
  · exact ⟨fun _ => bad (by simp [ha]), fun z => absurd rfl z⟩
  · refine ⟨fun z => absurd z (by decide), fun _ => ⟨fun z => bad (by grind), fun z => ⟨fun z2 => ?_, fun z2 => bad (by grind)⟩⟩⟩
    have hc : 0 ≤ c ∧ c ≤ 1 := by grind
    obtain ⟨j, xx, m, hj, hx, hm, rfl, rfl, rfl⟩ := askd_nI hW ha
    obtain ⟨V, l, hV, hl, e1, e3⟩ := hwb.wl ht hj
    obtain ⟨a1, a2, a3, a4, a5, a6⟩ := hR.2.2.2.1.1.2 j hj
    have start : ∀ (Q' : Int64 → Mm → Prop), ((¬ bget (S.1 0 1) j = true → WPv T' mX7_findOdds [.ref y, .int (nI j), .int (nI xx), .int (nI m), .int 0] M' (fun M5 => WP T' mX7_odds 61 [(0, .ref y), (4, .int c), (5, .long (M5.2.1 y 37)), (7, .long (M5.2.1 y 38))] [] M5 (ql Q'))) ∧ (bget (S.1 0 1) j = true → Q' (-2) M')) → WPl T' mX7_odds [.ref y, .int (nI j), .int (nI xx), .int (nI m), .int c] M' Q' := by
      intro Q' hq
      refine WPM.of (by decide) rfl (Nat.le_of_ble_eq_true rfl) (sg_X7_odds_0 h7 (r_isAsked h7 hR.1 hW ?_))
      rw [ha]
      refine ⟨fun z => absurd z (by decide), fun _ => r_in ?_⟩
      simp only [forall_eq]
      rw [if_pos hc, p_21, cl_nI (by omega), a6]
      refine ⟨fun _ => ⟨vp_nI (by omega) (by decide), fun z => hq.1 (fun q => z (by rw [q]; rfl)), fun z => hq.2 ?_⟩, fun z => absurd z (by decide)⟩
      cases hb : bget (S.1 0 1) j
      · rw [hb] at z; exact absurd z (by decide)
      · rfl
    refine c_isCaught hL.st.2.1 ?_
    rw [hC.2.2.2.1.2.1.z]
    by_cases hb : ((S.1 0 1 >>> (nI j &&& 31)) &&& 1) = 1
    · rw [if_pos hb]
      refine ⟨fun z => absurd z (by decide), fun _ => start _ ⟨fun z => absurd (decide_eq_true hb) z, fun _ => ⟨rfl, hI'⟩⟩⟩
    · rw [if_neg hb]
      simp only [forall_eq]
      refine ⟨fun _ => ⟨hg, c_foresee hL hC hW hj hV hl e1 e3 (fun N hf h0 hway => ?_)⟩, fun z => absurd trivial z⟩
      have hC2 := hC.frame hf
      refine ⟨hC2.isG hL, hC2.isG hL, ?_⟩
      rw [hC2.2.1.z]
      refine c_runsAhead (V := V) (l := l) (n := m) (xx := xx) (mf := mnF G j V) (sn := fun t => sunW G (S.1 0 0 + nI t) (G 0 2)) hL (hC2.isG hL) hC2.2.1 hx hm hway (fun t ht => by rw [h0]) (fun f2 => ?_)
      have hu := Rs_le (al := alF V (mnF G j V) l (fun t => sunW G (S.1 0 0 + nI t) (G 0 2))) hx hm
      have hp := p12 hm
      have hp0 : 0 < 10 ^ m := Nat.pow_pos (by decide)
      refine c_power hm (c_common (by omega) hu ?_)
      generalize hU : Rs (Rn xx (alF V (mnF G j V) l (fun t => sunW G (S.1 0 0 + nI t) (G 0 2))) m) = U at hu ⊢
      have hg0 : 0 < Nat.gcd U (10 ^ m) := Nat.gcd_pos_of_pos_right _ hp0
      have hgl : Nat.gcd U (10 ^ m) ≤ 10 ^ m := Nat.gcd_le_right _ hp0
      have h1 : ¬ lN (Nat.gcd U (10 ^ m)) < 1 := by
        rw [show (1 : Int64) = lN 1 from rfl, pk_lLT (by omega) (by omega)]; omega
      have hne : ¬ lN (Nat.gcd U (10 ^ m)) = 0 := by
        rw [show (0 : Int64) = lN 0 from rfl, pk_lEQ (by omega) (by omega)]; omega
      rw [if_neg h1]
      have ref : ∀ r, r = (if c = 0 then lN U else lN (10 ^ m)) / lN (Nat.gcd U (10 ^ m)) → WPl T' mX7_odds [.ref y, .int (nI j), .int (nI xx), .int (nI m), .int c] M' (fun r' N' => r' = r ∧ Inv x y (cM N (x + 7) f2) N') := by
        intro r hr
        refine start _ ⟨fun _ => ?_, fun z => absurd (of_decide_eq_true z) hb⟩
        refine r_findOdds (G := G) (B := S.1) (V := V) (l := l) (sn := fun t => sunW G (S.1 0 0 + nI t) (G 0 2)) h7 hR.1 hW hR.2.2.2.1.1 hj hV hl e1 e3 hx hm (fun t ht => by simp) (fun w2 u2 => ?_)
        rw [hU, oM_37, oM_38]
        refine l_rgcd (x4 := c) h7 (10 ^ m) U (10 ^ m + 1) (by omega) hu (by omega) (by rw [Nat.gcd_comm]; exact hg0) ?_
        rw [oM_37, oM_38, Nat.gcd_comm]
        exact ⟨hr.symm, G, F, S, I, tn, tb, tr, hC2.frame cM_FrC, hR.frame oM_FrR, hS⟩
      exact ⟨fun z => ⟨hne, ref _ (by rw [if_neg z])⟩, fun z => ⟨hne, ref _ (by rw [if_pos z])⟩⟩
end
