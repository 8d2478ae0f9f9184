/-! ORDERS AND MINUTES -/
def Ws (n : Nat) (B : Blk) : Prop := ∀ w, w < n → 0 ≤ B 4 w ∧ B 4 w ≤ 99
theorem Ws.go {G B : Blk} {n w : Nat} (h : Ws n B) : Ws n (goB G B w).1 := by
  intro u hu
  have ku := h u hu
  unfold goB
  split
  · exact ku
  · split
    · rename_i h1 h2
      simp only [ub]
      by_cases e : u = w
      · subst e; simp; grind
      · simp [e]; exact ku
    · split
      · simp [ub]; exact ku
      · split
        · simp [ub]; exact ku
        · simp [ub]; exact ku
theorem Ws.pass {G B : Blk} {n : Nat} (h : Ws n B) : Ws n (passB G B).1 := by
  have key : ∀ (k i : Nat) (s : Blk × Int32 × Int32), Ws n s.1 → Ws n (foldF (passS G) i k s).1 := by
    intro k
    induction k with
    | zero => intro i s hs; exact hs
    | succ k ih =>
      intro i s hs
      simp only [foldF]
      refine ih (i + 1) _ ?_
      unfold passS
      by_cases hf : foreB G s.1 s.2.1 = -1
      · simp only [hf, if_true]; exact hs
      · simp only [hf, if_false]; exact hs.go
  have key2 : ∀ (y : Int32) (k i : Nat) (C : Blk), Ws n C → Ws n (foldF (catchS y) i k C) := by
    intro y k
    induction k with
    | zero => intro i C hC; exact hC
    | succ k ih =>
      intro i C hC
      simp only [foldF]
      refine ih (i + 1) _ (fun w hw => ?_)
      rw [catch_row (by decide)]; exact hC w hw
  refine key2 _ _ _ _ (fun w hw => ?_)
  rw [ub_n _ _ (by omega)]
  exact key _ _ _ h w hw
theorem CI.story {x : Nat} {M M' : Mm} {G F : Blk} {S S' : Stt} {I : Nat → Bool × Stt} {tn : Nat} {tb : Nat → Int32} {tr : Int64} (hC : CI x M G F S I tn tb tr) (hf : FrS (x + 16) M M') (hl : StL M' (x + 16)) (hs : StC M' (x + 16) S') : CI x M' G F S' I tn tb tr := by
  obtain ⟨h1, h2, h3, ⟨h4, h5⟩, h6, h7, h8⟩ := hC
  obtain ⟨f1, f2, f3, f4⟩ := hf
  unfold CI
  rw [f3 x (by omega), f2, f1 (x + 1) (by omega), f1 (x + 2) (by omega)]
  refine ⟨h1, h2.kept (fun j hj => f1 _ (by rcases h1 with h | h <;> rw [h.1] <;> omega)), h3.kept (fun j hj => f1 _ (by rcases h1 with h | h <;> rw [h.1] <;> omega)), ⟨hl, hs⟩, fun k hk => ?_, h7, h8.1, h8.2.kept (fun c hc => f1 _ (by omega))⟩
  obtain ⟨a, b, c⟩ := h6 k hk
  exact ⟨a.kept (f3 _ (by omega)), by rw [f1 _ (by omega)]; exact b, fun q => (c q).kept a (f3 _ (by omega)) (fun a _ _ => f1 a (by omega))⟩
theorem CI.now {x : Nat} {M : Mm} {G F B : Blk} {S : Stt} {I : Nat → Bool × Stt} {tn : Nat} {tb : Nat → Int32} {tr : Int64} (hC : CI x M G F S I tn tb tr) : CI x (wB M (x + 16 + 1) 6 B) G F (B, S.2.1, S.2.2) I tn tb tr := by
  have hC' := hC
  obtain ⟨h1, h2, h3, ⟨h4, h5⟩, h6, h7, h8⟩ := hC
  refine hC'.story ⟨fun a ha => wB_out (by omega), rfl, fun _ _ => rfl, fun k hk => by rw [wB_out (by omega)]⟩ (h4.kept rfl) ⟨GrC.own, by rw [wB_out (by omega)]; exact h5.2.1, h5.2.2.1, fun i hi => ?_⟩
  obtain ⟨π, p1, p2⟩ := h4
  have hi' : i < S.2.1 := hi
  have := h5.2.2.1
  obtain ⟨q1, q2⟩ := p1 i (by omega)
  exact (h5.2.2.2 i hi').kept (fun j hj => wB_out (by show M.2.2 (x + 16 + 7) i + j < x + 16 + 1 ∨ x + 16 + 1 + 6 ≤ M.2.2 (x + 16 + 7) i + j; rw [q2]; omega))
theorem CI.gd {x : Nat} {M : Mm} {G F : Blk} {S : Stt} {I : Nat → Bool × Stt} {tn : Nat} {tb : Nat → Int32} {tr : Int64} (hC : CI x M G F S I tn tb tr) (m : Nat) (hm : m + 6 ≤ x + 220) : M.2.2 x 7 + 6 ≤ m ∨ m + 6 ≤ M.2.2 x 7 := by
  rcases hC.1 with h | h <;> rw [h.1] <;> omega
theorem Wm.u4 {n j : Nat} {B : Blk} {v : Int32} (h : Wm n B) (hv : 0 ≤ v ∧ v ≤ 99) : Wm n (ub B 4 j v) := by
  obtain ⟨⟨t, ht, h1, ⟨c, c1, c2⟩, h3⟩, h4⟩ := h
  refine ⟨⟨t, ht, by rw [ub_n _ _ (by omega)]; exact h1, ⟨c, c1, by rw [ub_n _ _ (by omega)]; exact c2⟩, h3.row (by funext k; simp [ub]) (by funext k; simp [ub])⟩, fun u hu => ?_⟩
  by_cases e : u = j
  · subst e; rw [ub_s]; exact hv
  · rw [ub_n _ _ (by omega)]; exact h4 u hu
theorem Wm.u2 {n j : Nat} {B : Blk} {v : Int32} (h : Wm n B) : Wm n (ub B 2 j v) := by
  obtain ⟨⟨t, ht, h1, ⟨c, c1, c2⟩, h3⟩, h4⟩ := h
  refine ⟨⟨t, ht, by rw [ub_n _ _ (by omega)]; exact h1, ⟨c, c1, by rw [ub_n _ _ (by omega)]; exact c2⟩, h3.row (by funext k; simp [ub]) (by funext k; simp [ub])⟩, fun u hu => ?_⟩
  rw [ub_n _ _ (by omega)]; exact h4 u hu
section
variable {T T' : Th} {x y : Nat} {M M' : Mm}
theorem LayC.st (hL : LayC T x) : isX5 T (x + 16) := hL.1.2.2.2.2.2.1
theorem LayC.i0 (hL : LayC T x) : isX5 T (x + 84) := hL.1.2.2.2.2.2.2.1
theorem LayC.i1 (hL : LayC T x) : isX5 T (x + 152) := hL.1.2.2.2.2.2.2.2
theorem LayC.tri (hL : LayC T x) : isX2 T (x + 10) := hL.1.2.2.2.2.1
theorem e_minute (hL : LayC T x) (h7 : isX7 T' y) (hI : Inv x y M M') : WPi T mX6_minute [.ref x] M (fun r N => WPi T' mX7_minute [.ref y] M' (fun r' N' => r' = r ∧ Inv x y N N')) := by
  have hI' := hI
  obtain ⟨G, F, S, I, tn, tb, tr, hC, hR, hS⟩ := hI
  have h5 := nW_le G
  have hW := hS.1
  have hN := hC.2.2.2.1.2.1
  obtain ⟨⟨t, ht, hwb⟩, hws⟩ := hS.2.2.2.1.2.1
  have hkn : S.2.1 ≤ 10 := hS.2.2.2.1.1
  refine WPM.of (by decide) rfl (Nat.le_of_ble_eq_true rfl) (sg_X6_minute_0 hL.1 ?_)
  rw [hN.z, hwb.1]
  by_cases h9 : t < 999
  · refine ⟨fun _ => ?_, fun z => absurd (nI_lt (b := 999) h9 (by omega)) z⟩
    refine c_remember hL.st hL.2.1 hC.2.2.2.1.1 hC.2.2.2.1.2 (fun M1 S1 f1 l1 s1 rem => ?_)
    have hC1 := hC.story f1 l1 s1
    have eN : S1.1 = S.1 := rem.1
    simp only [forall_eq]
    refine ⟨hC1.isG hL, ?_⟩
    have e1 : M1 = wB M1 (x + 16 + 1) 6 S.1 := by have h := s1.1; rw [eN] at h; exact h.eq.symm
    rw [e1]
    refine c_pass (M := M1) (g := M1.2.2 x 7) (G := G) (hC1.isG hL) hL.st.2.1 hC1.2.1 (hC1.gd _ (by omega)) ?_
    rw [w6_0]
    refine c_bitCount ?_
    have hC2 := hC1.now (B := (passB G S.1).1)
    have hwb2 := hwb.pass hW (by omega)
    obtain ⟨c, hc1, hc2⟩ := hwb2.2.1
    -- the reference
    refine WPM.of (by decide) rfl (Nat.le_of_ble_eq_true rfl) (sg_X7_minute_0 h7 ?_)
    rw [hR.2.2.2.1.1.1, hwb.1]
    refine ⟨fun _ => ?_, fun z => absurd ((nI_eq (b := 999) (by omega) (by omega)).mp z) (by omega)⟩
    refine r_know h7 hkn hR.2.2.2.1.2.1 (fun r1 hk1 => r_toThen h7 (fun r2 hr2 => ?_))
    have hRS1 := hR.2.2.2.1.rem h5 hk1 hkn rem
    rw [rN_n] at hr2
    have hG1 : RG (rN M' y r1) y G := by
      have := hR.1
      unfold RG at this ⊢
      rw [rN_o (by omega), rN_o (by omega), rN_o (by omega), rN_o (by omega), rN_o (by omega), rN_o (by omega), rN_o (by omega)]
      exact this
    have hrw : Rw (nW G) S.1 r2 := by have := hRS1.1; rw [eN] at this; exact this.cong h5 hr2
    refine r_pass (B := S.1) (t := t) h7 hG1.T hW (by rw [rT_t]; exact hrw) hwb (by omega) (fun r3 hr3 => ?_)
    rw [rT_rT]
    refine r_toNow h7 (fun r4 q1 q2 => ?_)
    rw [rT_t] at q1
    rw [rT_a 17 (by decide) (by decide), rN_n] at q2
    have hr4 : Rw (nW G) (passB G S.1).1 r4 := hr3.cong h5 q1
    have oc : ∀ c, 1 ≤ c → c ≠ 17 → c ≠ 18 → (rN (rT (rN M' y r1) y r3 (cw (passB G S.1).2)) y r4).1 (y + c) = M'.1 (y + c) := fun c k1 k2 k3 => by
      rw [rN_o (by omega), rT_a c (by omega) k3, rN_o (by omega)]
    have hG4 : RG (rN (rT (rN M' y r1) y r3 (cw (passB G S.1).2)) y r4) y G := by
      have := hR.1
      unfold RG at this ⊢
      rw [oc 2 (by decide) (by decide) (by decide), oc 3 (by decide) (by decide) (by decide), oc 4 (by decide) (by decide) (by decide), oc 5 (by decide) (by decide) (by decide), oc 7 (by decide) (by decide) (by decide), oc 9 (by decide) (by decide) (by decide), oc 16 (by decide) (by decide) (by decide)]
      exact this
    refine r_cau (B := (passB G S.1).1) h7 hG4 hW (by rw [rN_o (by omega), rT_t]; exact hr3) hwb2.2.1 (r_many ?_)
    refine ⟨by rw [hc2]; exact (bc_pop5 c (mask_32 h5 hc1)).symm, G, F, ((passB G S.1).1, S1.2.1, S1.2.2), I, tn, tb, tr, hC2, ?_, ?_⟩
    · refine hR.rows (fun c k1 k2 => oc c k1 (by omega) (by omega)) ?_ rfl ?_ (fun k hk => ?_)
      · rw [rN_o (by omega), rT_f (by decide), rN_o (by omega)]
      · rw [rN_n]
        refine ⟨hr4, ?_, fun i hi => ?_⟩
        · rw [q2 31 (by omega)]; exact hRS1.2.1
        · exact (hRS1.2.2 i hi).cong h5 (fun k hk => q2 _ (by omega))
      · obtain ⟨a, b⟩ := hR.2.2.2.2.1 k hk
        rw [oc 19 (by decide) (by decide) (by decide), rN_n]
        refine ⟨a, fun e => (b e).cong h5 (hS.2.2.2.2.1 k hk e).1 (fun j hj => ?_)⟩
        show r4 (342 * (1 + k) + j) = _
        rw [q2 _ (by omega), hk1.2.1 _ (by omega)]
    · obtain ⟨w1, w2, w3, w4, w5, w6, w7⟩ := hS
      have w8 := w4.rem h5 rem
      exact ⟨w1, w2, w3, ⟨w8.1, ⟨⟨t + 1, by omega, hwb2⟩, Ws.pass hws⟩, w8.2.2⟩, w5, w6, w7⟩
  · have e : t = 999 := by omega
    refine ⟨fun z => absurd z (nI_nlt (b := 999) (by omega) (by omega)), fun _ => ?_⟩
    refine WPM.of (by decide) rfl (Nat.le_of_ble_eq_true rfl) (sg_X7_minute_0 h7 ?_)
    rw [hR.2.2.2.1.1.1, hwb.1]
    exact ⟨fun z => absurd (by rw [e]; rfl) z, fun _ => ⟨rfl, hI'⟩⟩
theorem e_undo (hL : LayC T x) (h7 : isX7 T' y) (hI : Inv x y M M') : WPi T mX6_undo [.ref x] M (fun r N => WPi T' mX7_undo [.ref y] M' (fun r' N' => r' = r ∧ Inv x y N N')) := by
  have hI' := hI
  obtain ⟨G, F, S, I, tn, tb, tr, hC, hR, hS⟩ := hI
  have h5 := nW_le G
  have hkn : S.2.1 ≤ 10 := hS.2.2.2.1.1
  refine WPM.of (by decide) rfl (Nat.le_of_ble_eq_true rfl) (sg_X6_undo_0 hL.1 ?_)
  refine c_takeBack hL.st hL.2.1 hC.2.2.2.1.1 hC.2.2.2.1.2 (fun e => ?_) (fun M1 C hpos ag f1 l1 s1 => ?_)
  · exact ⟨fun _ => r_undo h7 hkn hR.2.2.2.1.2.1 (fun _ => ⟨rfl, hI'⟩) (fun q => by omega), fun z => absurd rfl z⟩
  · refine ⟨fun z => absurd z (by decide), fun _ => ?_⟩
    have hC1 := hC.story f1 l1 s1
    rw [s1.2.1]
    refine r_undo h7 hkn hR.2.2.2.1.2.1 (fun q => by omega) (fun _ r q1 q2 q3 => ⟨rfl, G, F, (C, S.2.1 - 1, S.2.2), I, tn, tb, tr, hC1, ?_, ?_⟩)
    · refine hR.rows (fun c k1 k2 => rN_o (by omega)) (by rw [rN_o (by omega)]) rfl ?_ (fun k hk => ?_)
      · rw [rN_n]
        refine ⟨((hR.2.2.2.1.2.2 (S.2.1 - 1) (by omega)).cong h5 q2).ag h5 ag, q1, fun i hi => ?_⟩
        have hi' : i < S.2.1 - 1 := hi
        exact (hR.2.2.2.1.2.2 i (by omega)).cong h5 (fun k hk => q3 _ (by omega))
      · obtain ⟨a, b⟩ := hR.2.2.2.2.1 k hk
        rw [rN_o (by omega), rN_n]
        exact ⟨a, fun e => (b e).cong h5 (hS.2.2.2.2.1 k hk e).1 (fun j hj => q3 _ (by omega))⟩
    · obtain ⟨w1, w2, w3, w4, w5, w6, w7⟩ := hS
      refine ⟨w1, w2, w3, ⟨by show S.2.1 - 1 ≤ 10; omega, (w4.2.2 (S.2.1 - 1) (by omega)).ag h5 ag, fun i hi => ?_⟩, w5, w6, w7⟩
      have hi' : i < S.2.1 - 1 := hi
      exact w4.2.2 i (by omega)
theorem e_stand {w n : Int32} (hL : LayC T x) (h7 : isX7 T' y) (hI : Inv x y M M') : WPi T mX6_stand [.ref x, .int w, .int n] M (fun r N => WPi T' mX7_stand [.ref y, .int w, .int n] M' (fun r' N' => r' = r ∧ Inv x y N N')) := by
  have hI' := hI
  obtain ⟨G, F, S, I, tn, tb, tr, hC, hR, hS⟩ := hI
  have h5 := nW_le G
  have hW := hS.1
  have hN := hC.2.2.2.1.2.1
  have hg := hC.isG hL
  obtain ⟨⟨t, ht, hwb⟩, hws⟩ := hS.2.2.2.1.2.1
  have hkn : S.2.1 ≤ 10 := hS.2.2.2.1.1
  have bad : ¬ (hasWg G w = true ∧ 1 ≤ n ∧ n ≤ 30) → WPi T' mX7_stand [.ref y, .int w, .int n] M' (fun r' N' => r' = -1 ∧ Inv x y M N') := by
    intro hb
    refine WPM.of (by decide) rfl (Nat.le_of_ble_eq_true rfl) (sg_X7_stand_0 h7 (r_isWagon h7 hR.1 hW ?_))
    by_cases hw : hasWg G w = true
    · simp only [hw, b2i, if_true]
      refine ⟨fun z => absurd z (by decide), fun _ => r_in ?_⟩
      rw [if_neg (fun q => hb ⟨hw, q⟩)]
      exact ⟨fun z => absurd (by trivial) z, fun _ => ⟨by trivial, hI'⟩⟩
    · simp only [hw, b2i, if_false]
      exact ⟨fun _ => ⟨by trivial, hI'⟩, fun z => absurd (by trivial) z⟩
  refine WPM.of (by decide) rfl (Nat.le_of_ble_eq_true rfl) (sg_X6_stand_0 hL.1 ?_)
  simp only [forall_eq]
  refine ⟨hg, c_hasWagon hg hC.2.1 ?_⟩
  by_cases hw : hasWg G w = true
  · simp only [hw, b2i, if_true]
    refine ⟨fun z => absurd z (by decide), fun _ => ⟨fun z => bad (by grind), fun z => ⟨fun z2 => ?_, fun z2 => bad (by grind)⟩⟩⟩
    have hn : 1 ≤ n ∧ n ≤ 30 := by grind
    obtain ⟨j, hj, rfl, hj5⟩ := hasWg_nI hW hw
    obtain ⟨r1, r2, r3, r4, r5, r6⟩ := hR.2.2.2.1.1.2 j hj
    have hcl := cl_nI (i := j) (by omega)
    have hv5 := vp_nI (i := j) (n := 5) (by omega) (by decide)
    have sj := hws j hj
    -- the reference, up to its refusals
    have ref : ∀ Q : Int32 → Mm → Prop, (bget (S.1 0 1) j = true → Q (-2) M') → (bget (S.1 0 1) j = false → ¬ S.1 4 j + n ≤ 99 → Q (-2) M') → (bget (S.1 0 1) j = false → S.1 4 j + n ≤ 99 → ∀ r, KnR S.2.1 (M'.1 (y + 17)) r → Q (S.1 4 j + n) (rN M' y (upd r (11 + j) (S.1 4 j + n)))) → WPi T' mX7_stand [.ref y, .int (nI j), .int n] M' Q := by
      intro Q q1 q2 q3
      refine WPM.of (by decide) rfl (Nat.le_of_ble_eq_true rfl) (sg_X7_stand_0 h7 (r_isWagon h7 hR.1 hW ?_))
      simp only [hw, b2i, if_true]
      refine ⟨fun z => absurd z (by decide), fun _ => r_in ?_⟩
      rw [if_pos hn, p_21, p_11, cl_nI (by omega), cl_nI (by omega), r6, r3]
      refine ⟨fun _ => ⟨vp_nI (by omega) (by decide), fun z => ?_, fun z => ?_⟩, fun z => absurd z (by decide)⟩
      · refine q1 ?_
        by_cases hc : bget (S.1 0 1) j = true
        · exact hc
        · simp [hc] at z
      · have hc : bget (S.1 0 1) j = false := by
          by_cases hc : bget (S.1 0 1) j = true
          · simp [hc] at z
          · simpa using hc
        refine ⟨vp_nI (by omega) (by decide), fun z2 => r_know h7 hkn hR.2.2.2.1.2.1 (fun r hk => ?_), fun z2 => q2 hc z2⟩
        have e3 : r (11 + j) = S.1 4 j := by rw [hk.1 _ (by omega), r3]
        rw [rN_n, e3]
        simp only [forall_eq, rN_s, rN_n, pk_us]
        exact ⟨vp_nI (by omega) (by decide), vp_nI (by omega) (by decide), vp_nI (by omega) (by decide), q3 hc z2 r hk⟩
    refine c_isCaught hL.st.2.1 ?_
    rw [hN.z, hN 4 (by decide), hcl]
    by_cases hc : ((S.1 0 1 >>> (nI j &&& 31)) &&& 1) = 1
    · have hb : bget (S.1 0 1) j = true := decide_eq_true hc
      rw [if_pos hc]
      exact ⟨fun _ => ref _ (fun _ => ⟨rfl, hI'⟩) (fun q => by rw [hb] at q; cases q) (fun q => by rw [hb] at q; cases q), fun z => absurd z (by decide)⟩
    · have hb : bget (S.1 0 1) j = false := decide_eq_false hc
      rw [if_neg hc]
      refine ⟨fun z => absurd rfl z, fun _ => ⟨hv5, fun z3 => ?_, fun z3 => ref _ (fun q => by rw [hb] at q; cases q) (fun _ _ => ⟨rfl, hI'⟩) (fun _ q => absurd q z3)⟩⟩
      refine c_remember hL.st hL.2.1 hC.2.2.2.1.1 hC.2.2.2.1.2 (fun M1 S1 f1 l1 s1 rem => ?_)
      have hC1 := hC.story f1 l1 s1
      have eN : S1.1 = S.1 := rem.1
      have g1 : GrC M1 (x + 16 + 1) S.1 := by have h := s1.1; rw [eN] at h; exact h
      have e1 : M1 = wB M1 (x + 16 + 1) 6 S.1 := g1.eq.symm
      rw [g1 4 (by decide)]
      rw [show sI M1 (x + 16 + 1 + 4) j (S.1 4 j + n) = wB M1 (x + 16 + 1) 6 (ub S.1 4 j (S.1 4 j + n)) from by rw [← s6_4, ← e1]]
      try simp only [forall_eq]
      refine ⟨hv5, hv5, hv5, ?_⟩
      rw [w6_4, ub_s]
      have hC2 := hC1.now (B := ub S.1 4 j (S.1 4 j + n))
      refine ref _ (fun q => by rw [hb] at q; cases q) (fun _ q => absurd z3 q) (fun _ _ r hk => ⟨rfl, G, F, (ub S.1 4 j (S.1 4 j + n), S1.2.1, S1.2.2), I, tn, tb, tr, hC2, ?_, ?_⟩)
      · have hRS1 := hR.2.2.2.1.rem h5 hk hkn rem
        refine hR.rows (fun c k1 k2 => rN_o (by omega)) (by rw [rN_o (by omega)]) rfl ?_ (fun k hk2 => ?_)
        · rw [rN_n]
          refine ⟨?_, ?_, fun i hi => ?_⟩
          · have := hRS1.1; rw [eN] at this; exact this.u4 h5 hj
          · rw [upd_nm _ _ (by omega)]; exact hRS1.2.1
          · exact (hRS1.2.2 i hi).cong h5 (fun k hk => upd_nm _ _ (by omega))
        · obtain ⟨a, b⟩ := hR.2.2.2.2.1 k hk2
          rw [rN_o (by omega), rN_n]
          refine ⟨a, fun e => (b e).cong h5 (hS.2.2.2.2.1 k hk2 e).1 (fun i hi => ?_)⟩
          show upd r (11 + j) (S.1 4 j + n) (342 * (1 + k) + i) = _
          rw [upd_nm _ _ (by omega), hk.2.1 _ (by omega)]
      · obtain ⟨w1, w2, w3, w4, w5, w6, w7⟩ := hS
        have w8 := w4.rem h5 rem
        exact ⟨w1, w2, w3, ⟨w8.1, w4.2.1.u4 (by grind), w8.2.2⟩, w5, w6, w7⟩
  · simp only [hw, b2i, if_false]
    exact ⟨fun _ => bad (fun q => hw q.1), fun z => absurd rfl z⟩
theorem any_self {p : Nat → Bool} {n j : Nat} (hj : j < n) (h : p j = true) : anyF p 0 n = true := (anyF_iff p n 0).mpr ⟨j, by omega, by omega, h⟩
theorem e_change {w rl : Int32} (hL : LayC T x) (h7 : isX7 T' y) (hI : Inv x y M M') : WPi T mX6_change [.ref x, .int w, .int rl] M (fun r N => WPi T' mX7_change [.ref y, .int w, .int rl] M' (fun r' N' => r' = r ∧ Inv x y N N')) := by
  have hI' := hI
  obtain ⟨G, F, S, I, tn, tb, tr, hC, hR, hS⟩ := hI
  have h5 := nW_le G
  have hW := hS.1
  have hN := hC.2.2.2.1.2.1
  have hg := hC.isG hL
  obtain ⟨⟨t, ht, hwb⟩, hws⟩ := hS.2.2.2.1.2.1
  have hkn : S.2.1 ≤ 10 := hS.2.2.2.1.1
  have bad : ¬ (hasWg G w = true ∧ 0 ≤ rl ∧ rl ≤ 2) → WPi T' mX7_change [.ref y, .int w, .int rl] M' (fun r' N' => r' = -1 ∧ Inv x y M N') := by
    intro hb
    refine WPM.of (by decide) rfl (Nat.le_of_ble_eq_true rfl) (sg_X7_change_0 h7 (r_isWagon h7 hR.1 hW ?_))
    by_cases hw : hasWg G w = true
    · simp only [hw, b2i, if_true]
      refine ⟨fun z => absurd z (by decide), fun _ => r_in ?_⟩
      rw [if_neg (fun q => hb ⟨hw, q⟩)]
      exact ⟨fun z => absurd (by trivial) z, fun _ => ⟨by trivial, hI'⟩⟩
    · simp only [hw, b2i, if_false]
      exact ⟨fun _ => ⟨by trivial, hI'⟩, fun z => absurd (by trivial) z⟩
  refine WPM.of (by decide) rfl (Nat.le_of_ble_eq_true rfl) (sg_X6_change_0 hL.1 ?_)
  simp only [forall_eq]
  refine ⟨hg, c_hasWagon hg hC.2.1 ?_⟩
  by_cases hw : hasWg G w = true
  · simp only [hw, b2i, if_true]
    refine ⟨fun z => absurd z (by decide), fun _ => ⟨fun z => bad (by grind), fun z => ⟨fun z2 => ?_, fun z2 => bad (by grind)⟩⟩⟩
    have hn : 0 ≤ rl ∧ rl ≤ 2 := by grind
    obtain ⟨j, hj, rfl, hj5⟩ := hasWg_nI hW hw
    obtain ⟨r1, r2, r3, r4, r5, r6⟩ := hR.2.2.2.1.1.2 j hj
    have hcl := cl_nI (i := j) (by omega)
    have hv5 := vp_nI (i := j) (n := 5) (by omega) (by decide)
    have hway : 0 ≤ S.1 1 j := (hwb.2.2 j hj).1
    obtain ⟨p, hp, hlt, e1p, e2p, e3p⟩ := plc_in hW hway
    have ref : ∀ Q : Int32 → Mm → Prop, (¬ (bget (S.1 0 1) j = false ∧ ((G 0 5 >>> (plc G (S.1 1 j) &&& 31)) &&& 1) = 1 ∧ takenB G S.1 rl (S.1 1 j) = false) → Q (-2) M') → (bget (S.1 0 1) j = false → ((G 0 5 >>> (plc G (S.1 1 j) &&& 31)) &&& 1) = 1 → takenB G S.1 rl (S.1 1 j) = false → ∀ r, KnR S.2.1 (M'.1 (y + 17)) r → Q (S.1 2 j) (rN M' y (upd r (26 + j) rl))) → WPi T' mX7_change [.ref y, .int (nI j), .int rl] M' Q := by
      intro Q q1 q2
      refine WPM.of (by decide) rfl (Nat.le_of_ble_eq_true rfl) (sg_X7_change_0 h7 (r_isWagon h7 hR.1 hW ?_))
      simp only [hw, b2i, if_true]
      refine ⟨fun z => absurd z (by decide), fun _ => r_in ?_⟩
      rw [if_pos hn, p_26, p_1, cl_nI (by omega), cl_nI (by omega), r5, r1, hR.1.1, e2p, hR.2.1.1]
      rw [e1p] at q1 q2
      simp only [forall_eq]
      have key : ∀ s0 : Int32, (s0 = 0 ↔ ¬ ((G 0 5 >>> (nI p &&& 31)) &&& 1) = 1) → WP T' mX7_change 62 [(0, .ref y), (1, .int (nI j)), (2, .int rl), (3, .int (S.1 2 j))] [.int s0] M' (qi Q) := by
        intro s0 hs
        refine sg_X7_change_62 h7 ?_
        rw [p_21, p_1, p_26, cl_nI (by omega), cl_nI (by omega), cl_nI (by omega), r6, r1]
        refine ⟨vp_nI (by omega) (by decide), fun z => q1 (fun q => by simp [q.1] at z), fun z => ⟨fun z2 => q1 (fun q => ?_), fun z2 => ⟨fun z3 => q1 (fun q => (hs.mp z3) q.2.1), fun z3 => ⟨vp_nI (by omega) (by decide), r_isThere (B := S.1) h7 hR.1 hW hR.2.2.2.1.1 ?_⟩⟩⟩⟩
        · have : takenB G S.1 rl (S.1 1 j) = true := any_self hj (decide_eq_true ⟨rfl, z2⟩)
          rw [this] at q; exact absurd q.2.2 (by decide)
        · by_cases htk : takenB G S.1 rl (S.1 1 j) = true
          · simp only [htk, b2i, if_true]
            exact ⟨fun z => absurd z (by decide), fun _ => q1 (fun q => by rw [htk] at q; exact absurd q.2.2 (by decide))⟩
          · simp only [htk, b2i, if_false]
            refine ⟨fun _ => r_know h7 hkn hR.2.2.2.1.2.1 (fun r hk => ?_), fun z => absurd rfl z⟩
            simp only [forall_eq, rN_s]
            refine ⟨vp_nI (by omega) (by decide), q2 ?_ ?_ (by simpa using htk) r hk⟩
            · by_cases hc : bget (S.1 0 1) j = true
              · simp [hc] at z
              · simpa using hc
            · by_cases hpt : ((G 0 5 >>> (nI p &&& 31)) &&& 1) = 1
              · exact hpt
              · exact absurd (hs.mpr hpt) z3
      refine ⟨fun _ => ⟨vp_nI (by omega) (by decide), vp_nI (by omega) (by decide), e3p, fun z => key 0 ⟨fun _ => z, fun _ => rfl⟩, fun z => key 1 ⟨fun q => absurd q (by decide), fun q => absurd z q⟩⟩, fun z => absurd z (by decide)⟩
    refine c_isCaught hL.st.2.1 ?_
    rw [hN.z, hN 1 (by decide), hcl]
    by_cases hc : ((S.1 0 1 >>> (nI j &&& 31)) &&& 1) = 1
    · have hb : bget (S.1 0 1) j = true := decide_eq_true hc
      rw [if_pos hc]
      exact ⟨fun _ => ref _ (fun _ => ⟨rfl, hI'⟩) (fun q => by rw [hb] at q; cases q), fun z => absurd z (by decide)⟩
    · have hb : bget (S.1 0 1) j = false := decide_eq_false hc
      rw [if_neg hc]
      refine ⟨fun z => absurd rfl z, fun _ => ⟨hg, hv5, c_hasPoints hg hC.2.1 ?_⟩⟩
      by_cases hpt : ((G 0 5 >>> (plc G (S.1 1 j) &&& 31)) &&& 1) = 1
      · rw [if_pos hpt]
        refine ⟨fun z => absurd z (by decide), fun _ => ?_⟩
        rw [hN 1 (by decide)]
        refine ⟨hg, hv5, c_isTaken hg hL.st.2.1 hC.2.1 hN ?_⟩
        by_cases htk : takenB G S.1 rl (S.1 1 j) = true
        · simp only [htk, b2i, if_true]
          exact ⟨fun z => absurd z (by decide), fun _ => ref _ (fun _ => ⟨rfl, hI'⟩) (fun _ _ q => by rw [htk] at q; cases q)⟩
        · simp only [htk, b2i, if_false]
          refine ⟨fun _ => ?_, fun z => absurd rfl z⟩
          refine c_remember hL.st hL.2.1 hC.2.2.2.1.1 hC.2.2.2.1.2 (fun M1 S1 f1 l1 s1 rem => ?_)
          have hC1 := hC.story f1 l1 s1
          have eN : S1.1 = S.1 := rem.1
          have g1 : GrC M1 (x + 16 + 1) S.1 := by have h := s1.1; rw [eN] at h; exact h
          have e1 : M1 = wB M1 (x + 16 + 1) 6 S.1 := g1.eq.symm
          rw [g1 2 (by decide)]
          rw [show sI M1 (x + 16 + 1 + 2) j rl = wB M1 (x + 16 + 1) 6 (ub S.1 2 j rl) from by rw [← s6_2, ← e1]]
          try simp only [forall_eq]
          refine ⟨hv5, hv5, ?_⟩
          have hC2 := hC1.now (B := ub S.1 2 j rl)
          refine ref _ (fun q => absurd ⟨hb, hpt, by simpa using htk⟩ q) (fun _ _ _ r hk => ⟨rfl, G, F, (ub S.1 2 j rl, S1.2.1, S1.2.2), I, tn, tb, tr, hC2, ?_, ?_⟩)
          · have hRS1 := hR.2.2.2.1.rem h5 hk hkn rem
            refine hR.rows (fun c k1 k2 => rN_o (by omega)) (by rw [rN_o (by omega)]) rfl ?_ (fun k hk2 => ?_)
            · rw [rN_n]
              refine ⟨?_, ?_, fun i hi => ?_⟩
              · have := hRS1.1; rw [eN] at this; exact this.u2 h5 hj
              · rw [upd_nm _ _ (by omega)]; exact hRS1.2.1
              · exact (hRS1.2.2 i hi).cong h5 (fun k hk => upd_nm _ _ (by omega))
            · obtain ⟨a, b⟩ := hR.2.2.2.2.1 k hk2
              rw [rN_o (by omega), rN_n]
              refine ⟨a, fun e => (b e).cong h5 (hS.2.2.2.2.1 k hk2 e).1 (fun i hi => ?_)⟩
              show upd r (26 + j) rl (342 * (1 + k) + i) = _
              rw [upd_nm _ _ (by omega), hk.2.1 _ (by omega)]
          · obtain ⟨w1, w2, w3, w4, w5, w6, w7⟩ := hS
            have w8 := w4.rem h5 rem
            exact ⟨w1, w2, w3, ⟨w8.1, w4.2.1.u2, w8.2.2⟩, w5, w6, w7⟩
      · rw [if_neg hpt]
        exact ⟨fun _ => ref _ (fun _ => ⟨rfl, hI'⟩) (fun _ q => absurd q hpt), fun z => absurd rfl z⟩
  · simp only [hw, b2i, if_false]
    exact ⟨fun _ => bad (fun q => hw q.1), fun z => absurd rfl z⟩
end
