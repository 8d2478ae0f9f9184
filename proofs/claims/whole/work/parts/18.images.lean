/-! IMAGES -/
def upI (I : Nat → Bool × Stt) (k : Nat) (v : Bool × Stt) : Nat → Bool × Stt := fun i => if i = k then v else I i
theorem CI.image {x k : Nat} {M M1 M2 : Mm} {G F : Blk} {S S' : Stt} {I : Nat → Bool × Stt} {tn : Nat} {tb : Nat → Int32} {tr : Int64} (hk : k < 2) (hC : CI x M G F S I tn tb tr) (hf : FrS (x + 84 + 68 * k) M M1) (hl : StL M1 (x + 84 + 68 * k)) (hs : StC M1 (x + 84 + 68 * k) S') (e : M2 = sI M1 (x + 84 + 68 * k) 3 1) : CI x M2 G F S (upI I k (true, S')) tn tb tr := by
  obtain ⟨h1, h2, h3, ⟨h4, h5⟩, h6, h7, h8⟩ := hC
  obtain ⟨f1, f2, f3, f4⟩ := hf
  have o1 : ∀ a, (a < x + 84 + 68 * k ∨ x + 84 + 68 * k + 68 ≤ a) → M2.1 a = M.1 a := fun a ha => by
    rw [← f1 a ha, e]; funext j; simp only [sI]; rw [if_neg (by omega)]
  have o2 : ∀ a, a ≠ x + 84 + 68 * k → M2.1 a = M1.1 a := fun a ha => by
    rw [e]; funext j; simp only [sI]; rw [if_neg (by omega)]
  have o3 : M2.2 = M1.2 := by rw [e]; rfl
  unfold CI
  rw [o3, f3 x (by omega), f2, o1 (x + 1) (by omega), o1 (x + 2) (by omega)]
  refine ⟨h1, h2.kept (fun j hj => o1 _ (by rcases h1 with h | h <;> rw [h.1] <;> omega)), h3.kept (fun j hj => o1 _ (by rcases h1 with h | h <;> rw [h.1] <;> omega)), ⟨h4.kept (by rw [o3]; exact f3 _ (by omega)), h5.kept h4 (by rw [o3]; exact f3 _ (by omega)) (fun a _ _ => o1 a (by omega))⟩, fun q hq => ?_, h7, h8.1, h8.2.kept (fun c hc => o1 _ (by omega))⟩
  obtain ⟨a, b, c⟩ := h6 q hq
  by_cases hqk : q = k
  · subst hqk
    refine ⟨hl.kept (by rw [o3]), ?_, fun _ => ?_⟩
    · rw [e]; simp [sI, upI, b2i]
    · obtain ⟨s1, s2, s3, s4⟩ := hs
      have hl' := hl
      obtain ⟨π, p1, p2⟩ := hl
      simp only [upI, if_true]
      refine ⟨s1.kept (fun j hj => o2 _ (by omega)), ?_, s3, fun i hi => ?_⟩
      · rw [e]; simp only [sI]; rw [if_neg (by omega)]; exact s2
      · rw [o3]
        refine (s4 i hi).kept (fun j hj => o2 _ ?_)
        rw [(p1 i (by omega)).2]; omega
  · simp only [upI, hqk, if_false]
    refine ⟨a.kept (by rw [o3]; exact f3 _ (by omega)), by rw [o1 _ (by omega)]; exact b, fun e2 => (c e2).kept a (by rw [o3]; exact f3 _ (by omega)) (fun a _ _ => o1 a (by omega))⟩
section
variable {T T' : Th} {x y : Nat} {M M' : Mm}
theorem r_keepBad {k : Int32} {Q : Int32 → Mm → Prop} (h7 : isX7 T' y) (hk : ¬ (0 ≤ k ∧ k ≤ 1)) (hq : Q (-1) M') : WPi T' mX7_keep [.ref y, .int k] M' Q := by
  refine WPM.of (by decide) rfl (Nat.le_of_ble_eq_true rfl) (sg_X7_keep_0 h7 (r_in ?_))
  rw [if_neg hk]
  exact ⟨fun z => absurd rfl z, fun _ => hq⟩
theorem r_backBad {k : Int32} {Q : Int32 → Mm → Prop} (h7 : isX7 T' y) (hk : ¬ (0 ≤ k ∧ k ≤ 1)) (hq : Q (-1) M') : WPi T' mX7_back [.ref y, .int k] M' Q := by
  refine WPM.of (by decide) rfl (Nat.le_of_ble_eq_true rfl) (sg_X7_back_0 h7 (r_in ?_))
  rw [if_neg hk]
  exact ⟨fun z => absurd rfl z, fun _ => hq⟩
theorem im_ix : ∀ k, k < 2 → (342 : Int32) * (1 + nI k) = nI (342 * (1 + k)) ∧ (0 ≤ nI k ∧ nI k ≤ 1) := by decide +kernel
theorem e_keep {k : Int32} (hL : LayC T x) (h7 : isX7 T' y) (hI : Inv x y M M') : WPi T mX6_keep [.ref x, .int k] M (fun r N => WPi T' mX7_keep [.ref y, .int k] M' (fun r' N' => r' = r ∧ Inv x y N N')) := by
  have hI' := hI
  obtain ⟨G, F, S, I, tn, tb, tr, hC, hR, hS⟩ := hI
  have h5 := nW_le G
  have hkn : S.2.1 ≤ 10 := hS.2.2.2.1.1
  have step : ∀ j, j < 2 → k = nI j → ∀ (M1 : Mm) (S' : Stt), FrS (x + 84 + 68 * j) M M1 → StL M1 (x + 84 + 68 * j) → StC M1 (x + 84 + 68 * j) S' → SAg S S' → ∀ M2 : Mm, M2 = sI M1 (x + 84 + 68 * j) 3 1 → WPi T' mX7_keep [.ref y, .int k] M' (fun r' N' => r' = M2.1 ((x + 16) + 1) 0 ∧ Inv x y M2 N') := by
    intro j hj ek M1 S' f1 l1 s1 ag M2 e2
    have hC2 := hC.image hj f1 l1 s1 e2
    rw [hC2.2.2.2.1.2.1.z]
    refine WPM.of (by decide) rfl (Nat.le_of_ble_eq_true rfl) (sg_X7_keep_0 h7 (r_in ?_))
    rw [ek, if_pos (im_ix j hj).2, (im_ix j hj).1]
    refine ⟨fun _ => ?_, fun z => absurd z (by decide)⟩
    refine r_copy (a := 0) h7 (by omega) (by omega) (by omega) (fun r q1 q2 => ⟨vp_nI hj (by decide), ?_⟩)
    rw [cl_nI (by omega)]
    intro M4 e4
    have o1 : ∀ c, 1 ≤ c → c ≠ 17 → c ≠ 19 → M4.1 (y + c) = M'.1 (y + c) := fun c k1 k2 k3 => by
      rw [e4]; funext i; simp only [sI]; rw [if_neg (by omega), rN_o (by omega)]
    have o17 : M4.1 (y + 17) = r := by rw [e4]; funext i; simp only [sI]; rw [if_neg (by omega), rN_n]
    have o19 : ∀ i, M4.1 (y + 19) i = if i = j then 1 else M'.1 (y + 19) i := fun i => by
      rw [e4]; simp only [sI]; rw [rN_o (by omega)]
      by_cases e : i = j
      · rw [if_pos ⟨trivial, e⟩, if_pos e]; decide
      · rw [if_neg (fun q => e q.2), if_neg e]
    have r0 : ∀ i, i < 342 → r i = M'.1 (y + 17) i := fun i hi => q2 i (by omega)
    refine ⟨?_, G, F, S, upI I j (true, S'), tn, tb, tr, hC2, ?_, ?_⟩
    · rw [o17, r0 0 (by omega)]; exact hR.2.2.2.1.1.1
    · refine hR.rows (fun c k1 k2 => o1 c k1 (by omega) (by omega)) ?_ ?_ ?_ (fun i hi => ?_)
      · rw [e4]; simp only [sI]; rw [if_neg (by omega), rN_o (by omega)]
      · rw [e4]; rfl
      · rw [o17]; exact hR.2.2.2.1.cong h5 hkn r0
      · rw [o19 i, o17]
        by_cases e : i = j
        · subst e
          simp only [upI, if_true]
          refine ⟨rfl, fun _ => ?_⟩
          refine (hR.2.2.2.1.ag h5 ag).cong h5 (by rw [ag.2.1]; exact hkn) (fun q hq => ?_)
          show r (342 * (1 + i) + q) = _
          rw [q1 q hq, Nat.zero_add]
        · simp only [upI, e, if_false]
          obtain ⟨a, b⟩ := hR.2.2.2.2.1 i hi
          exact ⟨a, fun e2 => (b e2).cong h5 (hS.2.2.2.2.1 i hi e2).1 (fun q hq => q2 _ (by omega))⟩
    · obtain ⟨w1, w2, w3, w4, w5, w6, w7⟩ := hS
      refine ⟨w1, w2, w3, w4, fun i hi e2 => ?_, w6, w7⟩
      by_cases e : i = j
      · subst e; simp only [upI, if_true]; exact w4.ag h5 ag
      · simp only [upI, e, if_false] at e2 ⊢; exact w5 i hi e2
  refine WPM.of (by decide) rfl (Nat.le_of_ble_eq_true rfl) (sg_X6_keep_0 hL.1 ?_)
  refine ⟨fun z => r_keepBad h7 (by grind) ⟨rfl, hI'⟩, fun z => ⟨fun z2 => ⟨fun z3 => ?_, fun z3 => ?_⟩, fun z2 => r_keepBad h7 (by grind) ⟨rfl, hI'⟩⟩⟩
  · have ek : k = nI 1 := by show k = 1; grind
    refine c_copyS hL.i1 hL.st hL.2.2.2.1 hL.2.1 (by omega) (hC.2.2.2.2.1 1 (by omega)).1 hC.2.2.2.1.1 hC.2.2.2.1.2 (fun M1 S' f1 l1 s1 ag M2 e2 => step 1 (by omega) ek M1 S' f1 l1 s1 ag M2 e2)
  · have ek : k = nI 0 := z3
    refine c_copyS hL.i0 hL.st hL.2.2.1 hL.2.1 (by omega) (hC.2.2.2.2.1 0 (by omega)).1 hC.2.2.2.1.1 hC.2.2.2.1.2 (fun M1 S' f1 l1 s1 ag M2 e2 => step 0 (by omega) ek M1 S' f1 l1 s1 ag M2 e2)
theorem e_back {k : Int32} (hL : LayC T x) (h7 : isX7 T' y) (hI : Inv x y M M') : WPi T mX6_back [.ref x, .int k] M (fun r N => WPi T' mX7_back [.ref y, .int k] M' (fun r' N' => r' = r ∧ Inv x y N N')) := by
  have hI' := hI
  obtain ⟨G, F, S, I, tn, tb, tr, hC, hR, hS⟩ := hI
  have h5 := nW_le G
  have step : ∀ j, j < 2 → k = nI j → isX5 T (x + 84 + 68 * j) → (∀ i, i < 10 → isX2 T (x + 84 + 68 * j + 8 + 6 * i)) → WP T mX6_back 26 [(0, .ref x)] [.ref (x + 84 + 68 * j)] M (qi (fun r N => WPi T' mX7_back [.ref y, .int k] M' (fun r' N' => r' = r ∧ Inv x y N N'))) := by
    intro j hj ek hx hm
    obtain ⟨i1, i2, i3⟩ := hC.2.2.2.2.1 j hj
    obtain ⟨a, b⟩ := hR.2.2.2.2.1 j hj
    refine sg_X6_back_26 hL.1 hx ?_
    rw [i2]
    have pre : ∀ Q : Int32 → Mm → Prop, ((I j).1 = false → Q (-2) M') → ((I j).1 = true → ∀ r, (∀ q, q < 342 → r (0 + q) = M'.1 (y + 17) (342 * (1 + j) + q)) → (∀ q, (q < 0 ∨ 0 + 342 ≤ q) → r q = M'.1 (y + 17) q) → Q (r 0) (rN M' y r)) → WPi T' mX7_back [.ref y, .int k] M' Q := by
      intro Q q1 q2
      refine WPM.of (by decide) rfl (Nat.le_of_ble_eq_true rfl) (sg_X7_back_0 h7 (r_in ?_))
      rw [ek, if_pos (im_ix j hj).2, (im_ix j hj).1, cl_nI (by omega), a]
      refine ⟨fun _ => ⟨vp_nI hj (by decide), fun z => ?_, fun z => q1 ?_⟩, fun z => absurd z (by decide)⟩
      · have hi : (I j).1 = true := by cases h : (I j).1 <;> simp [h, b2i] at z ⊢
        refine r_copy (b := 0) h7 (by omega) (by omega) (by omega) (fun r c1 c2 => ?_)
        rw [rN_n]
        exact q2 hi r c1 c2
      · cases h : (I j).1 <;> simp [h, b2i] at z ⊢
    cases hi : (I j).1 with
    | false =>
      refine ⟨fun z => absurd rfl z, fun _ => pre _ (fun _ => ⟨rfl, hI'⟩) (fun q => by rw [hi] at q; cases q)⟩
    | true =>
      refine ⟨fun _ => ?_, fun z => absurd z (by decide)⟩
      refine c_copyS hL.st hx hL.2.1 hm (by omega) hC.2.2.2.1.1 i1 (i3 hi) (fun M1 S' f1 l1 s1 ag => ?_)
      have hC1 := hC.story f1 l1 s1
      rw [s1.1.z]
      refine pre _ (fun q => by rw [hi] at q; cases q) (fun _ r c1 c2 => ?_)
      have hRi := (b hi).ag h5 ag
      have hkn : S'.2.1 ≤ 10 := s1.2.2.1
      have hR2 : RStt (nW G) r S' := hRi.cong h5 hkn (fun q hq => by have := c1 q hq; rw [Nat.zero_add] at this; exact this)
      refine ⟨hR2.1.1, G, F, S', I, tn, tb, tr, hC1, ?_, ?_⟩
      · refine hR.rows (fun c k1 k2 => rN_o (by omega)) (by rw [rN_o (by omega)]) rfl (by rw [rN_n]; exact hR2) (fun i hi2 => ?_)
        rw [rN_o (by omega), rN_n]
        obtain ⟨a2, b2⟩ := hR.2.2.2.2.1 i hi2
        exact ⟨a2, fun e2 => (b2 e2).cong h5 (hS.2.2.2.2.1 i hi2 e2).1 (fun q hq => c2 _ (by omega))⟩
      · obtain ⟨w1, w2, w3, w4, w5, w6, w7⟩ := hS
        exact ⟨w1, w2, w3, (w5 j hj hi).ag h5 ag, w5, w6, w7⟩
  refine WPM.of (by decide) rfl (Nat.le_of_ble_eq_true rfl) (sg_X6_back_0 hL.1 ?_)
  refine ⟨fun z => r_backBad h7 (by grind) ⟨rfl, hI'⟩, fun z => ⟨fun z2 => ⟨fun z3 => ?_, fun z3 => ?_⟩, fun z2 => r_backBad h7 (by grind) ⟨rfl, hI'⟩⟩⟩
  · exact step 1 (by omega) (by show k = 1; grind) hL.i1 hL.2.2.2.1
  · exact step 0 (by omega) z3 hL.i0 hL.2.2.1
end
