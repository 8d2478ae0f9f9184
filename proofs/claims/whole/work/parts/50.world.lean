/-! THE REFERENCE's WORLD, and both -/
section
variable {T : Th} {y : Nat} {M : Mm} {G F : Blk} {S : Stt} {I : Nat → Bool × Stt} {tn : Nat} {tb : Nat → Int32} {tr : Int64}
theorem r_w182 {Q : Int32 → Mm → Prop} {D : Blk} {k : Nat} {N : Mm} {r : Nat → Int32} (h7 : isX7 T y) (hR : RI y M G F S I tn tb tr) (hW : WDr D k) (z6 : D 6 0 = 0 ∧ D 6 1 = 0) (z10 : ∀ w, w < 5 → D 10 w = 0) (z11 : ∀ w, w < 5 → D 11 w = 0) (hA : RA y N D) (hS : RSs r D k) (h22 : r 22 = -9) (hF : RFr y M N)
    (hq : ∀ N', (∀ C, Ag (fun j => stB D (6 + j)) C → RI y N' (stB D) (fun j => stB D (6 + j)) (C, 0, S.2.2) (fun _ => (false, S)) 0 tb tr) → Q (nI k) N') : WP T mX7_world 182 [(0, .ref y)] [] (pM N y r) (qi Q) := by
  have h5 := nW_le D
  have n4 : nP D ≤ 4 := lim_le _ _
  obtain ⟨⟨a2, a3, a4, a5, a6, a7, a8⟩, ac, aw, ap⟩ := hA
  refine sg_X7_world_182 h7 ?_
  rw [pM_p, h22]
  refine ⟨fun _ => ?_, fun z => absurd rfl z⟩
  refine r_take (m := nP D) (A := pA D) (B := pB D) h7 n4 (by rw [pM_c 8 (by decide), a8]; exact hW.1.2.2.2) (fun i hi => ?_) (fun M1 tk => ?_)
  · rw [pM_c 14 (by decide), pM_c 15 (by decide), (ap i hi).1, (ap i hi).2]
    obtain ⟨p1, p2, p3, p4⟩ := hW.ps i hi
    exact ⟨p1, p2, by omega, by omega⟩
  obtain ⟨t1, t2, t3, t4, t5, t6, t7⟩ := tk
  have s : ∀ c, 2 ≤ c → c ≤ 8 → M1.1 (y + c) 0 = N.1 (y + c) 1 := fun c h1 h2 => by rw [t1 c h1 h2, pM_c c (by omega)]
  have w5 : ∀ c, 10 ≤ c → c ≤ 13 → ∀ w, w < 5 → M1.1 (y + c) w = N.1 (y + c) (5 + w) := fun c h1 h2 w hw => by rw [t3 c h1 h2 w hw, pM_c c (by omega)]
  have r0 := st_row (D := D) (j := 0) (by decide) (by decide)
  have hWG := st_wg hW
  have hsF := st_F hW z6 z10 z11
  have hRG : RG M1 y (stB D) := by
    refine ⟨?_, ?_, ?_, ?_, ?_, fun p hp => ?_, fun w hw => ?_⟩
    · rw [s 2 (by omega) (by omega), r0]; exact a2
    · rw [s 3 (by omega) (by omega), r0]; exact a3
    · rw [s 4 (by omega) (by omega), r0]; exact a4
    · rw [s 5 (by omega) (by omega), r0]; exact a5
    · rw [s 7 (by omega) (by omega), r0]; exact a7
    · rw [t2 p hp, pM_c 9 (by decide), st_row (by decide) (by decide)]; exact ac p hp
    · rw [st_n] at hw
      have hj : ∀ p, jr (pA D) (pB D) (nP D) 5 p = jr (pA D) (pB D) (nP D) (nP D) p := fun p => by
        have q := jr_more (A := pA D) (B := pB D) (m := nP D) p (5 - nP D)
        rw [show nP D + (5 - nP D) = 5 by omega] at q
        exact q
      rw [t5 w (by omega), st_2j hW, hj]
      refine jr_n (n := nW D) (fun i hi => ⟨(hW.ps i hi).2.2.1, (hW.ps i hi).2.2.2⟩) (nP D) _ _ (fun q hq => ?_) w hw
      rw [if_pos (by omega), pM_c 11 (by decide)]
      exact (aw q hq).2.1
  have hfi : ∀ w, w < nW (stB D) → M1.1 (y + 10) w = stB D (6 + 1) w ∧ M1.1 (y + 13) w = stB D (6 + 2) w := fun w hw => by
    rw [st_n] at hw
    rw [w5 10 (by omega) (by omega) w (by omega), w5 13 (by omega) (by omega) w (by omega), st_row (by decide) (by decide), st_row (by decide) (by decide)]
    exact ⟨(aw w hw).1, (aw w hw).2.2.2⟩
  have hnn : ∀ w, w < 10 → 0 ≤ M1.1 (y + 10) w := fun w hw => by
    by_cases q : w < 5
    · rw [w5 10 (by omega) (by omega) w q]; exact hF.2.2.2.1 _ (by omega)
    · rw [t4 w (by omega), pM_c 10 (by decide)]; exact hF.2.2.2.1 w hw
  refine WPM.of (by decide) rfl (Nat.le_of_ble_eq_true rfl) (sg_X7_begin_0 h7 ?_)
  refine r_begin (G := stB D) (F := fun j => stB D (6 + j)) h7 hRG hWG hsF hfi hnn (fun ρ hρ => ?_)
  refine r_toNow h7 (fun ρ2 p1 p2 => ?_)
  simp only [forall_eq]
  rw [rT_t] at p1
  generalize hN : sI (sI (sI (sI (rN (rT M1 y ρ (M1.1 y 29)) y ρ2) (y + 17) 31 0) (y + 19) 0 (vp_nar .boolean 0)) (y + 19) 1 (vp_nar .boolean 0)) y 2 0 = Nf
  have vz : vp_nar .boolean 0 = 0 := by decide
  have oN : ∀ c, 1 ≤ c → c ≤ 16 → Nf.1 (y + c) = M1.1 (y + c) := fun c h1 h2 => by
    rw [← hN, rN_s]; funext j
    simp only [sI]
    rw [if_neg (by omega), if_neg (by omega), if_neg (by omega), rN_o (by omega), rT_a c (by omega) (by omega)]
  have n17 : Nf.1 (y + 17) = upd ρ2 31 0 := by
    rw [← hN, rN_s]; funext j
    simp only [sI]
    rw [if_neg (by omega), if_neg (by omega), if_neg (by omega), rN_n]
  have n19 : ∀ j, j < 2 → Nf.1 (y + 19) j = 0 := fun j hj => by
    rw [← hN, vz]
    simp only [sI]
    rw [if_neg (by omega)]
    by_cases q : j = 1
    · rw [if_pos ⟨by trivial, q⟩]
    · rw [if_neg (by omega), if_pos ⟨by trivial, by omega⟩]
  have ny2 : Nf.1 y 2 = 0 := by rw [← hN]; simp [sI]
  have n23 : Nf.1 y 23 = nI k := by
    rw [← hN, rN_s]
    simp only [sI]
    rw [if_neg (by omega), if_neg (by omega), if_neg (by omega), rN_o (by omega), rT_f (by decide), t6 y (by omega), pM_p]
    exact hS.1
  have nn2 : Nf.2 = M.2 := by
    rw [← hN]
    show M1.2 = M.2
    rw [t7]; exact hF.2.2.2.2.2.2
  rw [n23]
  refine hq Nf (fun C hC => ⟨?_, ⟨?_, ?_, fun w hw => ?_⟩, ⟨fun w hw => ?_, fun w hw => ?_⟩, ⟨?_, ?_, fun i hi => absurd hi (by show ¬ i < 0; omega)⟩, fun j hj => ⟨n19 j hj, fun q => absurd (show false = true from q) (by decide)⟩, ⟨ny2, fun j hj => by omega⟩, ?_⟩)
  · unfold RG at hRG ⊢
    rw [oN 2 (by omega) (by omega), oN 3 (by omega) (by omega), oN 4 (by omega) (by omega), oN 5 (by omega) (by omega), oN 7 (by omega) (by omega), oN 9 (by omega) (by omega), oN 16 (by omega) (by omega)]
    exact hRG
  · rw [oN 6 (by omega) (by omega), s 6 (by omega) (by omega), r0]; exact a6
  · rw [oN 8 (by omega) (by omega), s 8 (by omega) (by omega), r0]; exact a8
  · rw [st_n] at hw
    rw [oN 12 (by omega) (by omega), w5 12 (by omega) (by omega) w (by omega), st_row (by decide) (by decide)]
    exact (aw w hw).2.2.1
  · rw [oN 10 (by omega) (by omega), oN 13 (by omega) (by omega)]; exact hfi w hw
  · rw [oN 10 (by omega) (by omega)]; exact hnn w hw
  · rw [n17]
    refine Rw.ag (by rw [st_n]; exact h5) ?_ hC
    refine hρ.cong (by rw [st_n]; exact h5) (fun j hj => ?_)
    rw [upd_nm _ _ (by omega)]; exact p1 j hj
  · rw [n17, upd_s]; rfl
  · rw [nn2]; exact hR.2.2.2.2.2.2
theorem r_world {Q : Int32 → Mm → Prop} {X : Blk} (h7 : isX7 T y) (hR : RI y M G F S I tn tb tr) (htn : tn ≤ 200) (hb : ∀ k, k < tn → 0 ≤ tb k ∧ tb k ≤ 255)
    (hbad : ∀ g N, prs tb tn (tn + 1) (rsD X) 0 0 = .inl g → RI y N G F S I tn tb tr → Q ((-10) - nI g) N)
    (hok : ∀ D' k' N, prs tb tn (tn + 1) (rsD X) 0 0 = .inr (D', k') → WDr D' k' → ((D' 6 0 = 0 ∧ D' 6 1 = 0) → (∀ w, w < 5 → D' 10 w = 0) → (∀ w, w < 5 → D' 11 w = 0) → ∀ C, Ag (fun j => stB D' (6 + j)) C → RI y N (stB D') (fun j => stB D' (6 + j)) (C, 0, S.2.2) (fun _ => (false, S)) 0 tb tr) → Q (nI k') N)
    (hz : ∀ D' k', prs tb tn (tn + 1) (rsD X) 0 0 = .inr (D', k') → (D' 6 0 = 0 ∧ D' 6 1 = 0) ∧ (∀ w, w < 5 → D' 10 w = 0) ∧ (∀ w, w < 5 → D' 11 w = 0)) : WPi T mX7_world [.ref y] M Q := by
  obtain ⟨rw1, rw2, rw3, rw4⟩ := rs_wd X
  have hR' := hR
  obtain ⟨g1, g2, g3, g4, g5, g6, g8⟩ := hR'
  have hF0 : RFr y M M := ⟨fun _ _ _ => rfl, fun _ _ => rfl, fun _ _ _ _ _ => rfl, g3.2, rfl, fun _ _ => rfl, rfl⟩
  have after : ∀ (N : Mm) (r : Nat → Int32), RFr y M N → RA y N (rsD X) → r 2 = nI tn → r 18 = nI 0 → r 22 = -9 → r 23 = 0 → r 24 = 0 → r 25 = 0 → WPv T mX7_next [.ref y] (pM N y r) (fun M1 => WP T mX7_world 105 [(0, .ref y)] [] M1 (qi Q)) := by
    intro N r hF hA r2 r18 r22 r23 r24 r25
    refine r_next h7 htn (tx (hF := hF) g6.2) hb (Nat.zero_le _) r2 r18 (fun r' e1 e2 => ?_)
    have hok1 : ROk tb tn r' 0 := ⟨by rw [e1 2 (by decide) (by decide) (by decide) (by decide)]; exact r2, by rw [e1 22 (by decide) (by decide) (by decide) (by decide)]; exact r22, e2⟩
    have hS : RSs r' (rsD X) 0 := by
      refine ⟨by rw [e1 23 (by decide) (by decide) (by decide) (by decide)]; exact r23, ?_, ?_⟩
      · rw [e1 24 (by decide) (by decide) (by decide) (by decide), r24]
        exact ⟨fun _ => (fold_u1 12 0 (rsB X)).1 0 3 (by decide), fun _ => rfl⟩
      · rw [e1 25 (by decide) (by decide) (by decide) (by decide), r25]
        exact ⟨fun _ => (fold_u1 12 0 (rsB X)).1 0 4 (by decide), fun _ => rfl⟩
    refine l_world105 h7 htn g6.2 hb (tn + 1) 0 0 (rsD X) N r' (by omega) (Nat.le_refl _) (Nat.zero_le _) hok1 hA hS hF rw1 ⟨fun D' k' N' r2 e x1 x2 x3 x4 x5 x6 x7 => ?_, fun g N' r2 e x1 x2 => ?_⟩
    · obtain ⟨z6, z10, z11⟩ := hz D' k' e
      exact r_w182 h7 hR x1 z6 z10 z11 x3 x4 x5 x7 (fun Nf hN => hok D' k' Nf e x1 (fun _ _ _ => hN))
    · refine sg_X7_world_182 h7 ?_
      rw [pM_p, x1.2.1]
      refine ⟨fun z => absurd z (nI_m9 (by have := x1.2.2.1; omega)), fun _ => hbad g _ e ?_⟩
      obtain ⟨f1, f2, f3, f4, f5, f6, f7⟩ := x2
      unfold RI RG
      rw [pM_c 2 (by decide), pM_c 3 (by decide), pM_c 4 (by decide), pM_c 5 (by decide), pM_c 7 (by decide), pM_c 9 (by decide), pM_c 16 (by decide), pM_c 6 (by decide), pM_c 8 (by decide), pM_c 12 (by decide), pM_c 10 (by decide), pM_c 13 (by decide), pM_c 17 (by decide), pM_c 19 (by decide), pM_c 1 (by decide), pM_p, f5, f6 16 (by omega), f6 17 (by omega), f6 19 (by omega), f1 2 (by omega) (by omega), f1 3 (by omega) (by omega), f1 4 (by omega) (by omega), f1 5 (by omega) (by omega), f1 6 (by omega) (by omega), f1 7 (by omega) (by omega), f1 8 (by omega) (by omega)]
      have h5 := nW_le G
      refine ⟨⟨g1.1, g1.2.1, g1.2.2.1, g1.2.2.2.1, g1.2.2.2.2.1, fun p hp => by rw [f2 p hp]; exact g1.2.2.2.2.2.1 p hp, g1.2.2.2.2.2.2⟩, ⟨g2.1, g2.2.1, fun w hw => by rw [f3 12 (by omega) (by omega) w (by omega)]; exact g2.2.2 w hw⟩, ⟨fun w hw => by rw [f3 10 (by omega) (by omega) w (by omega), f3 13 (by omega) (by omega) w (by omega)]; exact g3.1 w hw, f4⟩, g4, g5, ⟨x1.1, g6.2⟩, ?_⟩
      show N'.2.1 y 0 = tr
      rw [f7]; exact g8
  have l79 : ∀ (n i : Nat) (N : Mm) (r : Nat → Int32), i + n = 12 → RFr y M N → (N.1 (y + 2) 1 = 8 ∧ N.1 (y + 3) 1 = 3 ∧ N.1 (y + 4) 1 = 5 ∧ N.1 (y + 5) 1 = -9 ∧ N.1 (y + 6) 1 = 0 ∧ N.1 (y + 7) 1 = 0 ∧ N.1 (y + 8) 1 = 0) → (∀ p, p < i → N.1 (y + 9) (12 + p) = 1) → r 2 = nI tn → r 18 = nI 0 → r 22 = -9 → r 23 = 0 → r 24 = 0 → r 25 = 0 → WP T mX7_world 79 [(0, .ref y), (1, .int (nI i))] [] (pM N y r) (qi Q) := by
    intro n
    induction n with
    | zero =>
      intro i N r hi hF hs hc r2 r18 r22 r23 r24 r25
      refine sg_X7_world_79 h7 ⟨fun _ => after N r hF ?_ r2 r18 r22 r23 r24 r25, fun z => absurd (nI_le (a := 12) (by omega) (by omega)) z⟩
      have r0 : ∀ l, rsD X 0 l = rsB X 0 l := fun l => (fold_u1 12 0 (rsB X)).1 0 l (by decide)
      obtain ⟨s2, s3, s4, s5, s6, s7, s8⟩ := hs
      refine ⟨⟨by rw [s2, r0]; rfl, by rw [s3, r0]; rfl, by rw [s4, r0]; rfl, by rw [s5, r0]; rfl, by rw [s6, r0]; rfl, by rw [s7, r0]; rfl, by rw [s8, r0]; rfl⟩, fun p hp => ?_, fun w hw => by omega, fun i hi => by omega⟩
      rw [hc p (by omega), show rsD X 1 p = if 0 ≤ p ∧ p < 0 + 12 then 1 else rsB X 1 p from (fold_u1 12 0 (rsB X)).2 p, if_pos (by omega)]
    | succ n ih =>
      intro i N r hi hF hs hc r2 r18 r22 r23 r24 r25
      refine sg_X7_world_79 h7 ⟨fun z => absurd z (nI_ge (b := 12) (by omega) (by omega)), fun _ => ?_⟩
      rw [show (12 : Int32) + nI i = nI (12 + i) from nI_add 12 i, cl_nI (by omega), pM_sy (by decide), nI_1]
      simp only [forall_eq]
      have sk : ∀ c, c ≠ 9 → (sI N (y + 9) (12 + i) 1).1 (y + c) 1 = N.1 (y + c) 1 := fun c hc => by simp only [sI]; rw [if_neg (by omega)]
      refine ⟨vp_nI (by omega) (by decide), ih (i + 1) _ r (by omega) (hF.s (by omega) (by omega)) (by rw [sk 2 (by decide), sk 3 (by decide), sk 4 (by decide), sk 5 (by decide), sk 6 (by decide), sk 7 (by decide), sk 8 (by decide)]; exact hs) (fun p hp => ?_) r2 r18 r22 r23 r24 r25⟩
      simp only [sI]
      by_cases e : p = i
      · rw [if_pos ⟨by trivial, by omega⟩]
      · rw [if_neg (by omega)]; exact hc p (by omega)
  refine WPM.of (by decide) rfl (Nat.le_of_ble_eq_true rfl) (sg_X7_world_0 h7 ?_)
  intro M1 e1 M2 e2 M3 e3 M4 e4 M5 e5 M6 e6 M7 e7 M8 e8 M9 e9 M10 e10 M11 e11 M12 e12
  have q1 : M1 = pM M y (upd (M.1 y) 18 0) := by rw [e1, ← pM_s, pM_self]
  have q2 := e2.trans (by rw [q1, pM_s])
  have q3 := e3.trans (by rw [q2, pM_s])
  have q4 := e4.trans (by rw [q3, pM_s])
  have q5 := e5.trans (by rw [q4, pM_s])
  have q6 := e6.trans (by rw [q5, pM_sy (by decide)])
  have q7 := e7.trans (by rw [q6, pM_sy (by decide)])
  have q8 := e8.trans (by rw [q7, pM_sy (by decide)])
  have q9 := e9.trans (by rw [q8, pM_sy (by decide)])
  have q10 := e10.trans (by rw [q9, pM_sy (by decide)])
  have q11 := e11.trans (by rw [q10, pM_sy (by decide)])
  have q12 := e12.trans (by rw [q11, pM_sy (by decide)])
  rw [q12]
  refine l79 12 0 _ _ (by omega) (((((((hF0.s (by omega) (by omega)).s (by omega) (by omega)).s (by omega) (by omega)).s (by omega) (by omega)).s (by omega) (by omega)).s (by omega) (by omega)).s (by omega) (by omega)) ⟨?_, ?_, ?_, ?_, ?_, ?_, ?_⟩ (fun p hp => by omega) ?_ ?_ ?_ ?_ ?_ ?_
  all_goals first | (simp [sI]; done) | (simp [upd]; first | exact g6.1 | rfl | done)
end
section
variable {T T' : Th} {x y : Nat} {M M' : Mm}
theorem e_world (hL : LayC T x) (h7 : isX7 T' y) (hI : Inv x y M M') : WPi T mX6_world [.ref x] M (fun r N => WPi T' mX7_world [.ref y] M' (fun r' N' => r' = r ∧ Inv x y N N')) := by
  obtain ⟨G, F, S, I, tn, tb, tr, hC, hR, hS⟩ := hI
  have htn := hS.2.2.2.2.2.1
  have htb := hS.2.2.2.2.2.2
  refine c_world hL hC htn (fun g N e hg hC2 => ?_) (fun D' k' N C e hW hk z6 z10 z11 hag hC2 => ?_)
  · refine r_world (X := bk M (M.2.2 x 8)) h7 hR htn htb (fun g' N' e' hR2 => ?_) (fun D2 k2 N' e' _ _ => ?_) (fun D2 k2 e' => ?_)
    · rw [e] at e'; cases e'
      exact ⟨rfl, G, F, S, I, tn, tb, tr, hC2, hR2, hS⟩
    · rw [e] at e'; cases e'
    · rw [e] at e'; cases e'
  · refine r_world (X := bk M (M.2.2 x 8)) h7 hR htn htb (fun g' N' e' hR2 => ?_) (fun D2 k2 N' e' _ hR2 => ?_) (fun D2 k2 e' => ?_)
    · rw [e] at e'; cases e'
    · rw [e] at e'; cases e'
      have h5 := nW_le (stB D')
      have hWG := st_wg hW
      have hsF := st_F hW z6 z10 z11
      refine ⟨rfl, stB D', _, _, _, 0, tb, tr, hC2, hR2 z6 z10 z11 C hag, hWG, ?_, hsF, ⟨Nat.zero_le _, ⟨⟨0, by omega, (WbF hWG hsF).ag h5 hag⟩, fun w hw => ?_⟩, fun i hi => absurd hi (by show ¬ i < 0; omega)⟩, fun k hk q => absurd (show false = true from q) (by decide), by omega, fun k hk => by omega⟩
      · rw [st_row (by decide) (by decide)]; exact hW.2.2.2.2.1
      · have e4 : C 4 w = 0 := (hag.2.2 4 (by decide) (by decide) w (by omega)).trans (hsF.2.2 w hw).2.2.1
        show 0 ≤ C 4 w ∧ C 4 w ≤ 99
        rw [e4]; exact ⟨by decide, by decide⟩
    · rw [e] at e'; cases e'
      exact ⟨z6, z10, z11⟩
end
