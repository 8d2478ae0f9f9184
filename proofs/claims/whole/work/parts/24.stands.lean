/-! HOW LONG one may stand -/
def stdP (G B : Blk) (j n : Nat) : Bool := safeF G [] 5 (st3 0 0 0) (B 0 1) 40 0 (ub B 4 j (B 4 j + nI n))
def stdF (P : Nat → Bool) : Nat → Int32
  | 0 => -9
  | n + 1 => if P n then nI n else stdF P n
theorem nI_pm (k : Nat) : nI (k + 1) + (-1) = nI k := by rw [← nI_1]; grind
theorem std_from : ∀ s, s < 100 → (if (99 : Int32) - nI s < 30 then 99 - nI s else 30) = nI (min 31 (100 - s)) + (-1) := by decide +kernel
theorem well_nil {G : Blk} {sp : Nat} {st : Nat → Nat} : ∀ (m t : Nat) (B : Blk), wellF G [] sp st m t B = passN G m B
  | 0, _, _ => rfl
  | m + 1, t, B => by
    simp only [wellF, passN]
    rw [show ordB [] sp st t B = B from rfl]
    exact well_nil m (t + 1) _
theorem Wb.u4 {n j t : Nat} {v : Int32} {B : Blk} (h : Wb n B t) : Wb n (ub B 4 j v) t := by
  obtain ⟨h1, ⟨c, c1, c2⟩, h3⟩ := h
  refine ⟨by rw [ub_n _ _ (by omega)]; exact h1, ⟨c, c1, by rw [ub_n _ _ (by omega)]; exact c2⟩, h3.row ?_ ?_⟩
  · funext k; simp [ub]
  · funext k; simp [ub]
section
variable {T T' : Th} {x y : Nat} {M M' : Mm}
theorem l_cstands {G F : Blk} {S : Stt} {I : Nat → Bool × Stt} {tn : Nat} {tb : Nat → Int32} {tr : Int64} {j : Nat} {Q : Int32 → Mm → Prop} (hL : LayC T x) (hC : CI x M G F S I tn tb tr) (hp : PlC M (x + 3) [] 5) (hj : j < 5) :
    ∀ (n : Nat) (B : Blk), n ≤ 31 → (∀ B', Q (stdF (stdP G S.1 j) n) (wB M (x + 10) 6 B')) → WP T mX6_stands 58 [(0, .ref x), (1, .int (nI j)), (2, .int (nI n + (-1)))] [] (wB M (x + 10) 6 B) (qi Q) := by
  intro n
  induction n with
  | zero =>
    intro B hn hq
    exact sg_X6_stands_58 hL.1 ⟨fun _ => hq B, fun z => absurd (by decide) z⟩
  | succ n ih =>
    intro B hn hq
    rw [nI_pm]
    refine sg_X6_stands_58 hL.1 ⟨fun z => absurd (nI_pos' (n := n) (by omega)) (Int32.not_le.mpr z), fun _ => ?_⟩
    refine c_trial hL (hC.frame FrC.tri) (fun C ag => ?_)
    rw [wB_wB, cl_nI (by omega), w6_4, s6_4]
    refine ⟨vp_nI hj (by decide), vp_nI hj (by decide), ?_⟩
    simp only [forall_eq]
    refine c_safe (st := st3 0 0 0) hL hC hp (fun i hi => absurd hi (by simp)) (by simp) (fun i hi => absurd hi (by simp)) (fun i => by unfold st3; split <;> (try split) <;> omega) (fun B' => ?_)
    rw [ag_safe (fun i hi => absurd hi (by simp)) 40 0 (ub S.1 4 j (S.1 4 j + nI n)) _ (by rw [ag.2.2 4 (by decide) (by decide) j hj]; exact ag_ub ag (by decide))]
    simp only [stdF] at hq
    unfold stdP at hq ih
    by_cases hs : safeF G [] 5 (st3 0 0 0) (S.1 0 1) 40 0 (ub S.1 4 j (S.1 4 j + nI n)) = true
    · rw [hs] at hq ⊢
      exact ⟨fun z => absurd z (by decide), fun _ => hq B'⟩
    · rw [show safeF G [] 5 (st3 0 0 0) (S.1 0 1) 40 0 (ub S.1 4 j (S.1 4 j + nI n)) = false by simpa using hs] at hq ⊢
      exact ⟨fun _ => ih B' (by omega) hq, fun z => absurd rfl z⟩
theorem l_rstands {G : Blk} {S : Blk} {j s t : Nat} {Q : Int32 → Mm → Prop} (h7 : isX7 T' y) (hG : RG M' y G) (hW : WG G) (hr : Rw (nW G) S (M'.1 (y + 17))) (hb : Wb (nW G) S t) (ht : t ≤ 999) (hj : j < nW G) (hs : S 4 j = nI s) (h99 : s ≤ 99) :
    ∀ (n : Nat) (r : Nat → Int32) (wt : Int32), n ≤ 31 → (∀ r' wt', Q (stdF (stdP G S j) (min n (100 - s))) (rT M' y r' wt')) → WP T' mX7_stands 29 [(0, .ref y), (1, .int (nI j)), (2, .int (nI n + (-1)))] [] (rT M' y r wt) (qi Q) := by
  have h5 := nW_le G
  intro n
  induction n with
  | zero =>
    intro r wt hn hq
    rw [Nat.zero_min] at hq
    exact sg_X7_stands_29 h7 ⟨fun _ => hq r wt, fun z => absurd (by decide) z⟩
  | succ n ih =>
    intro r wt hn hq
    rw [nI_pm]
    have e17 : (rT M' y r wt).1 (y + 17) = M'.1 (y + 17) := rT_a 17 (by decide) (by decide)
    refine sg_X7_stands_29 h7 ⟨fun z => absurd (nI_pos' (n := n) (by omega)) (Int32.not_le.mpr z), fun _ => ?_⟩
    obtain ⟨a1, a2, a3, a4, a5, a6⟩ := hr.2 j hj
    rw [e17, p_11, cl_nI (by omega), a3, hs, nI_add]
    simp only [forall_eq]
    refine ⟨vp_nI (by omega) (by decide), fun z => ?_, fun z => ?_⟩
    · have : 99 < s + n := by
        by_cases q : 99 < s + n
        · exact q
        · exact absurd z (nI_nlt (a := 99) (by omega) (by omega))
      rw [show min (n + 1) (100 - s) = min n (100 - s) by omega] at hq
      exact ih r wt (by omega) hq
    · have hsn : ¬ 99 < s + n := fun q => z (nI_lt (a := 99) q (by omega))
      refine r_toThen h7 (fun r2 hr2 => ?_)
      rw [rT_rT]
      have hrw : Rw (nW G) S r2 := hr.cong h5 (fun k hk => by rw [hr2 k hk, e17])
      refine r_cau (B := S) h7 hG.T hW (by rw [rT_t]; exact hrw) hb.2.1 ?_
      rw [rT_t, rT_st, (hrw.2 j hj).2.2.1]
      refine ⟨vp_nI (by omega) (by decide), vp_nI (by omega) (by decide), ?_⟩
      have hb4 : Wb (nW G) (ub S 4 j (S 4 j + nI n)) t := hb.u4
      refine r_passMany (m := 40) (t := t) h7 hG.T hW (by omega) (by rw [rT_t]; exact hrw.u4 h5 hj) hb4 (by omega) (fun r3 wt3 hr3 => ?_)
      rw [rT_rT]
      have hb5 := hb4.passN hW 40 _ t (by omega)
      refine r_cau h7 hG.T hW (by rw [rT_t]; exact hr3) hb5.2.1 ?_
      obtain ⟨d, d1, d2⟩ := hb.2.1
      have key := safe_well (L := []) (sp := 5) (st := st3 0 0 0) hW 40 0 t (ub S 4 j (S 4 j + nI n)) d hb4 (by omega) d1 (by rw [ub_n _ _ (by omega)]; exact d2)
      rw [well_nil, ← d2] at key
      rw [show min (n + 1) (100 - s) = n + 1 by omega] at hq
      rw [show min n (100 - s) = n by omega] at ih
      simp only [stdF] at hq
      refine ⟨fun z2 => ?_, fun z2 => ?_⟩
      · have hf : ¬ stdP G S j n = true := fun q => z2 (key.mp q)
        simp only [hf] at hq
        exact ih r3 wt3 (by omega) hq
      · have hf : stdP G S j n = true := key.mpr z2
        simp only [hf, if_true] at hq
        exact hq r3 wt3
theorem e_stands {w : Int32} (hL : LayC T x) (h7 : isX7 T' y) (hI : Inv x y M M') : WPi T mX6_stands [.ref x, .int w] M (fun r N => WPi T' mX7_stands [.ref y, .int w] M' (fun r' N' => r' = r ∧ Inv x y N N')) := by
  have hI' := hI
  obtain ⟨G, F, S, I, tn, tb, tr, hC, hR, hS⟩ := hI
  have h5 := nW_le G
  have hW := hS.1
  have hg := hC.isG hL
  obtain ⟨⟨t, ht, hwb⟩, hws⟩ := hS.2.2.2.1.2.1
  refine WPM.of (by decide) rfl (Nat.le_of_ble_eq_true rfl) (sg_X6_stands_0 hL.1 ?_)
  simp only [forall_eq]
  refine ⟨hg, c_hasWagon hg hC.2.1 ?_⟩
  by_cases hw : hasWg G w = true
  · rw [hw]
    refine ⟨fun _ => c_isCaught hL.st.2.1 ?_, fun z => absurd z (by decide)⟩
    obtain ⟨j, hj, rfl, hj5⟩ := hasWg_nI hW hw
    rw [hC.2.2.2.1.2.1.z]
    obtain ⟨a1, a2, a3, a4, a5, a6⟩ := hR.2.2.2.1.1.2 j hj
    by_cases hc : ((S.1 0 1 >>> (nI j &&& 31)) &&& 1) = 1
    · rw [if_pos hc]
      refine ⟨fun z => absurd z (by decide), fun _ => ?_⟩
      refine WPM.of (by decide) rfl (Nat.le_of_ble_eq_true rfl) (sg_X7_stands_0 h7 (r_isWagon h7 hR.1 hW ?_))
      rw [hw, p_21, cl_nI (by omega), a6, show bget (S.1 0 1) j = true from decide_eq_true hc]
      exact ⟨fun _ => ⟨vp_nI (by omega) (by decide), fun z => absurd rfl z, fun _ => ⟨rfl, hI'⟩⟩, fun z => absurd z (by decide)⟩
    · rw [if_neg hc]
      refine ⟨fun _ => c_gatherNone hL.pl (fun N e => ?_), fun z => absurd rfl z⟩
      have hfr : FrC x M N := by rw [e]; exact (sI_FrC (by omega) (by omega)).trans (sI_FrC (by omega) (by omega))
      have hC2 := hC.frame hfr
      have hp : PlC N (x + 3) [] 5 := ⟨by rw [e]; simp [sI]; rfl, by rw [e]; simp [sI, spI], fun i hi => absurd hi (by simp)⟩
      obtain ⟨s0, s1⟩ := hws j hj
      obtain ⟨s, s2, s3⟩ := nI_of2 (M := 99) (n := 99) rfl (Int32.not_lt.mpr s0) s1
      rw [cl_nI (by omega), hC2.2.2.2.1.2.1 4 (by decide), s3, std_from s (by omega)]
      refine ⟨vp_nI hj5 (by decide), ?_⟩
      have hcl := l_cstands (n := min 31 (100 - s)) (B := bk N (x + 10)) (Q := fun r N => WPi T' mX7_stands [.ref y, .int (nI j)] M' (fun r' N' => r' = r ∧ Inv x y N N')) hL hC2 hp hj5
      rw [wB_self] at hcl
      refine hcl (by omega) (fun B' => ?_)
      refine WPM.of (by decide) rfl (Nat.le_of_ble_eq_true rfl) (sg_X7_stands_0 h7 (r_isWagon h7 hR.1 hW ?_))
      rw [hw, p_21, cl_nI (by omega), a6, show bget (S.1 0 1) j = false from decide_eq_false hc]
      refine ⟨fun _ => ⟨vp_nI (by omega) (by decide), fun _ => ?_, fun z => absurd z (by decide)⟩, fun z => absurd z (by decide)⟩
      have hrl := l_rstands (n := 31) (r := M'.1 (y + 18)) (wt := M'.1 y 29) (Q := fun r' N' => r' = stdF (stdP G S.1 j) (min 31 (100 - s)) ∧ Inv x y (wB N (x + 10) 6 B') N') h7 hR.1 hW hR.2.2.2.1.1 hwb ht hj s3 (by omega)
      rw [rT_self] at hrl
      exact hrl (by omega) (fun r' wt' => ⟨rfl, G, F, S, I, tn, tb, tr, hC2.frame FrC.tri, hR.frame rT_FrR, hS⟩)
  · rw [show hasWg G w = false by simpa using hw]
    refine ⟨fun z => absurd rfl z, fun _ => ?_⟩
    refine WPM.of (by decide) rfl (Nat.le_of_ble_eq_true rfl) (sg_X7_stands_0 h7 (r_isWagon h7 hR.1 hW ?_))
    rw [show hasWg G w = false by simpa using hw]
    exact ⟨fun z => absurd rfl z, fun _ => ⟨rfl, hI'⟩⟩
end
