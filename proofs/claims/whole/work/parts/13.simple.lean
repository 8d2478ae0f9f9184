/-! THE PLAIN QUESTIONS: each answers alike -/
theorem hasWg_nI {G : Blk} {w : Int32} (hW : WG G) (h : hasWg G w = true) : ∃ k, k < nW G ∧ w = nI k ∧ k < 5 := by
  have h5 := nW_le G
  unfold hasWg at h
  obtain ⟨h1, h2, h3⟩ := of_decide_eq_true h
  obtain ⟨j, hj, rfl⟩ := nI_of (Int32.not_lt.mpr h1)
  rw [hW.2.1, nI_ltI hj (by omega)] at h2
  exact ⟨j, h2, rfl, by omega⟩
theorem hasPl_nI {G : Blk} {p : Int32} (h : hasPl G p = true) : ∃ k, k < 12 ∧ p = nI k := by
  unfold hasPl at h
  obtain ⟨h1, h2, h3⟩ := of_decide_eq_true h
  obtain ⟨j, hj, rfl⟩ := nI_of (Int32.not_lt.mpr h1)
  rw [show (12 : Int32) = nI 12 from rfl, nI_ltI hj (by omega)] at h3
  exact ⟨j, h3, rfl⟩
theorem inPl {G : Blk} {p : Int32} (hW : WG G) : (0 ≤ p ∧ p ≤ G 0 0 - 1) ↔ hasPl G p = true := by
  obtain ⟨⟨sz, h1, h2, h3⟩, -⟩ := hW
  have h7 : 4 ≤ G 0 0 ∧ G 0 0 ≤ 12 := by rw [h3]; exact ⟨nI_le (a := 4) h1 (by omega), nI_le (b := 12) h2 (by omega)⟩
  unfold hasPl
  grind
def aPlace (G : Blk) (p k : Int32) : Int32 := if hasPl G p then (if k = 0 then G 1 p.toNatClampNeg else if k = 1 then (G 0 5 >>> (p &&& 31)) &&& 1 else if k = 2 then (if G 0 4 = p then 1 else 0) else -1) else -1
theorem c_place {T : Th} {x : Nat} {M : Mm} {G F : Blk} {S : Stt} {I : Nat → Bool × Stt} {tn : Nat} {tb : Nat → Int32} {tr : Int64} {p k : Int32} {Q : Int32 → Mm → Prop} (hL : LayC T x) (hC : CI x M G F S I tn tb tr) (hq : Q (aPlace G p k) M) : WPi T mX6_place [.ref x, .int p, .int k] M Q := by
  refine WPM.of (by decide) rfl (Nat.le_of_ble_eq_true rfl) (sg_X6_place_0 hL.1 ?_)
  have hg := hC.isG hL
  have hG := hC.2.1
  have hv : hasPl G p = true → vp_in p 12 := fun h => by
    obtain ⟨j, hj, rfl⟩ := hasPl_nI h
    exact vp_nI hj (by decide)
  simp only [forall_eq]
  refine ⟨hg, c_hasPlace hg hG ?_⟩
  rw [hG 1 (by decide), hG.z]
  unfold aPlace at hq
  unfold b2i
  grind
theorem r_place {T : Th} {y : Nat} {M : Mm} {G F : Blk} {S : Stt} {I : Nat → Bool × Stt} {tn : Nat} {tb : Nat → Int32} {tr : Int64} {p k : Int32} {Q : Int32 → Mm → Prop} (h7 : isX7 T y) (hR : RI y M G F S I tn tb tr) (hW : WG G) (hq : Q (aPlace G p k) M) : WPi T mX7_place [.ref y, .int p, .int k] M Q := by
  refine WPM.of (by decide) rfl (Nat.le_of_ble_eq_true rfl) (sg_X7_place_0 h7 (r_in ?_))
  have hi := inPl (p := p) hW
  rw [hR.1.1, hR.1.2.2.2.1, hR.2.1.1]
  unfold aPlace at hq
  by_cases hp : hasPl G p = true
  · obtain ⟨j, hj, rfl⟩ := hasPl_nI hp
    have hc := hR.1.2.2.2.2.2.1 j hj
    have e := cl_nI (i := j) (by omega)
    have hv := vp_nI (i := j) (n := 24) (by omega) (by decide)
    rw [e, hc]
    rw [e] at hq
    rw [if_pos (hi.mpr hp)]
    simp only [hp, if_true] at hq
    grind
  · rw [if_neg (fun q => hp (hi.mp q))]
    grind
theorem e_place {T T' : Th} {x y : Nat} {M M' : Mm} {p k : Int32} (hL : LayC T x) (h7 : isX7 T' y) (hI : Inv x y M M') : WPi T mX6_place [.ref x, .int p, .int k] M (fun r N => WPi T' mX7_place [.ref y, .int p, .int k] M' (fun r' N' => r' = r ∧ Inv x y N N')) := by
  have hI' := hI
  obtain ⟨G, F, S, I, tn, tb, tr, hC, hR, hS⟩ := hI
  exact c_place hL hC (r_place h7 hR hS.1 ⟨rfl, hI'⟩)
def aWagon (G N : Blk) (w k : Int32) : Int32 := if hasWg G w then (if k = 0 then N 1 w.toNatClampNeg else if k = 1 then G 2 w.toNatClampNeg else if k = 2 then G 3 w.toNatClampNeg else if k = 3 then N 2 w.toNatClampNeg else if k = 4 then N 3 w.toNatClampNeg else if k = 5 then N 4 w.toNatClampNeg else if k = 6 then N 5 w.toNatClampNeg else if k = 7 then (if bget (N 0 1) w.toNatClampNeg then 1 else 0) else -1) else -1
theorem c_wagon {T : Th} {x : Nat} {M : Mm} {G F : Blk} {S : Stt} {I : Nat → Bool × Stt} {tn : Nat} {tb : Nat → Int32} {tr : Int64} {w k : Int32} {Q : Int32 → Mm → Prop} (hL : LayC T x) (hC : CI x M G F S I tn tb tr) (hW : WG G) (hq : Q (aWagon G S.1 w k) M) : WPi T mX6_wagon [.ref x, .int w, .int k] M Q := by
  refine WPM.of (by decide) rfl (Nat.le_of_ble_eq_true rfl) (sg_X6_wagon_0 hL.1 ?_)
  have hg := hC.isG hL
  have hG := hC.2.1
  have hN := hC.2.2.2.1.2.1
  simp only [forall_eq]
  refine ⟨hg, c_hasWagon hg hG ?_⟩
  rw [hG 2 (by decide), hG 3 (by decide), hN 1 (by decide), hN 2 (by decide), hN 3 (by decide), hN 4 (by decide), hN 5 (by decide)]
  unfold aWagon at hq
  by_cases hw : hasWg G w = true
  · obtain ⟨j, hj, rfl, hj5⟩ := hasWg_nI hW hw
    have e := cl_nI (i := j) (by omega)
    have hv := vp_nI (i := j) (n := 5) (by omega) (by decide)
    rw [e] at hq ⊢
    simp only [hw, if_true, b2i] at hq ⊢
    refine ⟨fun _ => ⟨fun z => ?_, fun z => ?_, fun z => ?_, fun z => ?_, fun z => ?_, fun z => ?_, fun z => ?_, fun z => ?_, fun z => ?_⟩, fun z => absurd z (by decide)⟩
    · subst z; exact ⟨hv, hq⟩
    · subst z; exact ⟨hg, hv, hq⟩
    · subst z; exact ⟨hg, hv, hq⟩
    · subst z; exact ⟨hv, hq⟩
    · subst z; exact ⟨hv, hq⟩
    · subst z; exact ⟨hv, hq⟩
    · subst z; exact ⟨hv, hq⟩
    · subst z
      refine c_isCaught hL.1.2.2.2.2.2.1.2.1 ?_
      rw [hN.z]
      unfold bget at hq
      by_cases hb : ((S.1 0 1 >>> (nI j &&& 31)) &&& 1) = 1
      · simp only [hb, decide_true, if_true] at hq ⊢
        exact ⟨fun z => absurd z (by decide), fun _ => hq⟩
      · simp only [hb, decide_false, if_false] at hq ⊢
        exact ⟨fun _ => hq, fun z => absurd trivial z⟩
    · simp only [z.1, z.2, if_false] at hq; exact hq
  · simp only [hw, b2i, if_false] at hq ⊢
    exact ⟨fun z => absurd rfl z, fun _ => hq⟩
theorem r_wagon {T : Th} {y : Nat} {M : Mm} {G F : Blk} {S : Stt} {I : Nat → Bool × Stt} {tn : Nat} {tb : Nat → Int32} {tr : Int64} {w k : Int32} {Q : Int32 → Mm → Prop} (h7 : isX7 T y) (hR : RI y M G F S I tn tb tr) (hW : WG G) (hq : Q (aWagon G S.1 w k) M) : WPi T mX7_wagon [.ref y, .int w, .int k] M Q := by
  refine WPM.of (by decide) rfl (Nat.le_of_ble_eq_true rfl) (sg_X7_wagon_0 h7 (r_isWagon h7 hR.1 hW ?_))
  unfold aWagon at hq
  by_cases hw : hasWg G w = true
  · obtain ⟨j, hj, rfl, hj5⟩ := hasWg_nI hW hw
    have e := cl_nI (i := j) (by omega)
    obtain ⟨r1, r2, r3, r4, r5, r6⟩ := hR.2.2.2.1.1.2 j hj
    rw [p_1, p_26, p_6, p_11, p_16, p_21, cl_nI (by omega), cl_nI (by omega), cl_nI (by omega), cl_nI (by omega), cl_nI (by omega), cl_nI (by omega), cl_nI (by omega), r1, r2, r3, r4, r5, r6, hR.1.2.2.2.2.2.2 j hj, hR.2.1.2.2 j hj]
    rw [e] at hq
    simp only [hw, if_true, b2i] at hq ⊢
    refine ⟨fun _ => ⟨fun z => ?_, fun z => ?_, fun z => ?_, fun z => ?_, fun z => ?_, fun z => ?_, fun z => ?_, fun z => ?_, fun z => ?_⟩, fun z => absurd z (by decide)⟩
    iterate 8 (subst z; exact ⟨vp_nI (by omega) (by decide), hq⟩)
    simp only [z.1, z.2, if_false] at hq; exact hq
  · simp only [hw, b2i, if_false] at hq ⊢
    exact ⟨fun z => absurd rfl z, fun _ => hq⟩
theorem e_wagon {T T' : Th} {x y : Nat} {M M' : Mm} {p k : Int32} (hL : LayC T x) (h7 : isX7 T' y) (hI : Inv x y M M') : WPi T mX6_wagon [.ref x, .int p, .int k] M (fun r N => WPi T' mX7_wagon [.ref y, .int p, .int k] M' (fun r' N' => r' = r ∧ Inv x y N N')) := by
  have hI' := hI
  obtain ⟨G, F, S, I, tn, tb, tr, hC, hR, hS⟩ := hI
  exact c_wagon hL hC hS.1 (r_wagon h7 hR hS.1 ⟨rfl, hI'⟩)
theorem e_sun {T T' : Th} {x y : Nat} {M M' : Mm} {t : Int32} (hL : LayC T x) (h7 : isX7 T' y) (hI : Inv x y M M') : WPi T mX6_sun [.ref x, .int t] M (fun r N => WPi T' mX7_sun [.ref y, .int t] M' (fun r' N' => r' = r ∧ Inv x y N N')) := by
  have hI' := hI
  obtain ⟨G, F, S, I, tn, tb, tr, hC, hR, hS⟩ := hI
  refine WPM.of (by decide) rfl (Nat.le_of_ble_eq_true rfl) (sg_X6_sun_0 hL.1 ?_)
  have hg := hC.isG hL
  have hG := hC.2.1
  have rr : ∀ r : Int32, r = (if 0 ≤ t ∧ t ≤ 1100 then sunW G t (G 0 2) else -1000000) → WPi T' mX7_sun [.ref y, .int t] M' (fun r' N' => r' = r ∧ Inv x y M N') := by
    intro r hr
    refine WPM.of (by decide) rfl (Nat.le_of_ble_eq_true rfl) (sg_X7_sun_0 h7 (r_in ?_))
    by_cases hc : 0 ≤ t ∧ t ≤ 1100
    · rw [if_pos hc] at hr ⊢
      refine ⟨fun z => absurd z (by decide), fun _ => r_sunAt h7 hR.1 hS.1 ⟨hr.symm, hI'⟩⟩
    · rw [if_neg hc] at hr ⊢
      exact ⟨fun _ => ⟨hr.symm, hI'⟩, fun z => absurd rfl z⟩
  simp only [forall_eq]
  refine ⟨fun z => rr _ ?_, fun z => ⟨fun z2 => ⟨hg, hg, c_sunWay hg hG ?_⟩, fun z2 => rr _ ?_⟩⟩
  · rw [if_neg]; grind
  · rw [hG.z]; refine rr _ ?_; rw [if_pos]; grind
  · rw [if_neg]; grind
theorem e_clear {T T' : Th} {x y : Nat} {M M' : Mm} (hL : LayC T x) (h7 : isX7 T' y) (hI : Inv x y M M') : WPi T mX6_clear [.ref x] M (fun r N => WPi T' mX7_clear [.ref y] M' (fun r' N' => r' = r ∧ Inv x y N N')) := by
  obtain ⟨G, F, S, I, tn, tb, tr, hC, hR, hS⟩ := hI
  refine WPM.of (by decide) rfl (Nat.le_of_ble_eq_true rfl) (sg_X6_clear_0 hL.1 ?_)
  intro v e N eN
  refine WPM.of (by decide) rfl (Nat.le_of_ble_eq_true rfl) (sg_X7_clear_0 h7 ?_)
  intro v' e' N' eN'
  have ht := hC.2.2.2.2.2.1.1
  have ht' := hR.2.2.2.2.2.1.1
  refine ⟨by rw [e', e, ht, ht'], G, F, S, I, 0, tb, tr, ?_, ?_, ?_⟩
  · obtain ⟨h1, h2, h3, ⟨h4, h5⟩, h6, h7, h8⟩ := hC
    have o1 : ∀ a, a ≠ x + 1 → N.1 a = M.1 a := fun a ha => by rw [eN]; funext k; simp [sI, ha]
    have o2 : N.2 = M.2 := by rw [eN]; rfl
    unfold CI
    rw [o2]
    refine ⟨h1, h2.kept (fun j hj => o1 _ (by rcases h1 with h | h <;> rw [h.1] <;> omega)), h3.kept (fun j hj => o1 _ (by rcases h1 with h | h <;> rw [h.1] <;> omega)), ⟨h4.kept (by rw [o2]), h5.kept h4 (by rw [o2]) (fun a _ _ => o1 a (by omega))⟩, fun k hk => ?_, ?_, h8.1, h8.2.kept (fun c hc => o1 _ (by omega))⟩
    · obtain ⟨a, b, c⟩ := h6 k hk
      exact ⟨a.kept (by rw [o2]), by rw [o1 _ (by omega)]; exact b, fun q => (c q).kept a (by rw [o2]) (fun a _ _ => o1 a (by omega))⟩
    · exact ⟨by rw [eN]; simp [sI]; rfl, fun k hk => absurd hk (by omega)⟩
  · obtain ⟨h1, h2, h3, h4, h5, h6, h8⟩ := hR
    have o1 : ∀ c, 1 ≤ c → N'.1 (y + c) = M'.1 (y + c) := fun c hc => by rw [eN']; funext k; simp [sI]; omega
    have o2 : N'.2 = M'.2 := by rw [eN']; rfl
    unfold RI RG
    rw [o2, o1 2 (by decide), o1 3 (by decide), o1 4 (by decide), o1 5 (by decide), o1 7 (by decide), o1 9 (by decide), o1 16 (by decide), o1 6 (by decide), o1 8 (by decide), o1 12 (by decide), o1 10 (by decide), o1 13 (by decide), o1 17 (by decide), o1 19 (by decide)]
    exact ⟨h1, h2, h3, h4, h5, ⟨by rw [eN']; simp [sI]; rfl, fun k hk => absurd hk (by omega)⟩, h8⟩
  · obtain ⟨s1, s2, s3, s4, s5, s6, s7⟩ := hS
    exact ⟨s1, s2, s3, s4, s5, by omega, fun k hk => absurd hk (by omega)⟩
theorem e_trace {T T' : Th} {x y : Nat} {M M' : Mm} (hL : LayC T x) (h7 : isX7 T' y) (hI : Inv x y M M') : WPl T mX6_trace [.ref x] M (fun r N => WPl T' mX7_trace [.ref y] M' (fun r' N' => r' = r ∧ Inv x y N N')) := by
  have hI' := hI
  obtain ⟨G, F, S, I, tn, tb, tr, hC, hR, hS⟩ := hI
  refine WPM.of (by decide) rfl (Nat.le_of_ble_eq_true rfl) (sg_X6_trace_0 hL.1 ?_)
  refine WPM.of (by decide) rfl (Nat.le_of_ble_eq_true rfl) (sg_X7_trace_0 h7 ?_)
  exact ⟨by rw [hC.2.2.2.2.2.2.1, hR.2.2.2.2.2.2], hI'⟩
theorem CI.text {x : Nat} {M N : Mm} {G F : Blk} {S : Stt} {I : Nat → Bool × Stt} {tn tn' : Nat} {tb tb' : Nat → Int32} {tr : Int64} (hC : CI x M G F S I tn tb tr) (o1 : ∀ a, a ≠ x + 1 → a ≠ x + 2 → N.1 a = M.1 a) (o2 : N.2 = M.2) (ht : N.1 (x + 1) 1 = nI tn' ∧ ∀ k, k < tn' → N.1 (x + 2) k = tb' k) : CI x N G F S I tn' tb' tr := by
  obtain ⟨h1, h2, h3, ⟨h4, h5⟩, h6, h7, h8⟩ := hC
  unfold CI
  rw [o2]
  refine ⟨h1, h2.kept (fun j hj => o1 _ (by rcases h1 with h | h <;> rw [h.1] <;> omega) (by rcases h1 with h | h <;> rw [h.1] <;> omega)), h3.kept (fun j hj => o1 _ (by rcases h1 with h | h <;> rw [h.1] <;> omega) (by rcases h1 with h | h <;> rw [h.1] <;> omega)), ⟨h4.kept (by rw [o2]), h5.kept h4 (by rw [o2]) (fun a _ _ => o1 a (by omega) (by omega))⟩, fun k hk => ?_, ht, h8.1, h8.2.kept (fun c hc => o1 _ (by omega) (by omega))⟩
  obtain ⟨a, b, c⟩ := h6 k hk
  exact ⟨a.kept (by rw [o2]), by rw [o1 _ (by omega) (by omega)]; exact b, fun q => (c q).kept a (by rw [o2]) (fun a _ _ => o1 a (by omega) (by omega))⟩
theorem RI.text {y : Nat} {M N : Mm} {G F : Blk} {S : Stt} {I : Nat → Bool × Stt} {tn tn' : Nat} {tb tb' : Nat → Int32} {tr : Int64} (hR : RI y M G F S I tn tb tr) (o1 : ∀ c, 2 ≤ c → N.1 (y + c) = M.1 (y + c)) (o2 : N.2 = M.2) (ht : N.1 y 2 = nI tn' ∧ ∀ k, k < tn' → N.1 (y + 1) k = (tb' k).toInt8.toInt32) : RI y N G F S I tn' tb' tr := by
  obtain ⟨h1, h2, h3, h4, h5, h6, h8⟩ := hR
  unfold RI RG
  rw [o2, o1 2 (by decide), o1 3 (by decide), o1 4 (by decide), o1 5 (by decide), o1 7 (by decide), o1 9 (by decide), o1 16 (by decide), o1 6 (by decide), o1 8 (by decide), o1 12 (by decide), o1 10 (by decide), o1 13 (by decide), o1 17 (by decide), o1 19 (by decide)]
  exact ⟨h1, h2, h3, h4, h5, ht, h8⟩
theorem e_type {T T' : Th} {x y : Nat} {M M' : Mm} {c : Int32} (hL : LayC T x) (h7 : isX7 T' y) (hI : Inv x y M M') : WPi T mX6_type [.ref x, .int c] M (fun r N => WPi T' mX7_type [.ref y, .int c] M' (fun r' N' => r' = r ∧ Inv x y N N')) := by
  have hI' := hI
  obtain ⟨G, F, S, I, tn, tb, tr, hC, hR, hS⟩ := hI
  have ht := hC.2.2.2.2.2.1.1
  have ht' := hR.2.2.2.2.2.1.1
  have h200 : tn ≤ 200 := hS.2.2.2.2.2.1
  refine WPM.of (by decide) rfl (Nat.le_of_ble_eq_true rfl) (sg_X6_type_0 hL.1 ?_)
  have bad : ¬ (0 ≤ c ∧ c ≤ 255) → ∀ r : Int32, r = -1 → WPi T' mX7_type [.ref y, .int c] M' (fun r' N' => r' = r ∧ Inv x y M N') := by
    intro hc r hr
    refine WPM.of (by decide) rfl (Nat.le_of_ble_eq_true rfl) (sg_X7_type_0 h7 (r_in ?_))
    rw [if_neg hc]
    exact ⟨fun z => absurd rfl z, fun _ => ⟨hr.symm, hI'⟩⟩
  refine ⟨fun z => bad (by grind) _ rfl, fun z => ⟨fun z2 => ?_, fun z2 => bad (by grind) _ rfl⟩⟩
  have hc : 0 ≤ c ∧ c ≤ 255 := by grind
  refine WPM.of (by decide) rfl (Nat.le_of_ble_eq_true rfl) (sg_X4_add_0 hL.1.2.1 ?_)
  rw [ht]
  refine ⟨fun z => absurd z (nI_pos (by omega)), fun _ => ⟨fun z3 => ?_, fun z3 => ?_⟩⟩
  · have hlt : tn < 200 := by rw [show (200 : Int32) = nI 200 from rfl, nI_ltI (by omega) (by omega)] at z3; exact z3
    refine ⟨vp_nI hlt (by decide), ?_⟩
    intro M1 e1 M2 e2
    refine ⟨fun z => absurd z (by decide), fun _ => ?_⟩
    rw [cl_nI (by omega)] at e1
    have o1 : ∀ a, a ≠ x + 1 → a ≠ x + 2 → M2.1 a = M.1 a := fun a h1 h2 => by
      rw [e2, e1]; funext k; simp [sI, h1]; omega
    have v1 : M2.1 (x + 1) 1 = nI (tn + 1) := by
      rw [e2, e1]; simp [sI, ht, nI_1]
    have v2 : ∀ k, k < tn + 1 → M2.1 (x + 2) k = (if k = tn then c else tb k) := fun k hk => by
      rw [e2, e1]
      by_cases hkt : k = tn
      · subst hkt; simp [sI]
      · simp [sI, hkt]; exact hC.2.2.2.2.2.1.2 k (by omega)
    rw [v1]
    refine WPM.of (by decide) rfl (Nat.le_of_ble_eq_true rfl) (sg_X7_type_0 h7 (r_in ?_))
    rw [if_pos hc, ht']
    refine ⟨fun _ => ⟨fun _ => ⟨vp_nI hlt (by decide), ?_⟩, fun z => ?_⟩, fun z => absurd z (by decide)⟩
    · intro M3 e3 M4 e4
      rw [cl_nI (by omega), pk_vb] at e3
      have w1 : M4.1 y 2 = nI (tn + 1) := by rw [e4, e3]; simp [sI, ht', nI_1]
      refine ⟨w1, G, F, S, I, tn + 1, fun k => if k = tn then c else tb k, tr, hC.text o1 (by rw [e2, e1]; rfl) ⟨v1, v2⟩, hR.text ?_ (by rw [e4, e3]; rfl) ⟨w1, ?_⟩, ?_⟩
      · intro q hq; rw [e4, e3]; funext k; simp only [sI]; rw [if_neg (by omega), if_neg (by omega)]
      · intro k hk
        rw [e4, e3]
        by_cases hkt : k = tn
        · subst hkt; simp [sI]
        · simp [sI, hkt]; exact hR.2.2.2.2.2.1.2 k (by omega)
      · obtain ⟨s1, s2, s3, s4, s5, s6, s7⟩ := hS
        refine ⟨s1, s2, s3, s4, s5, by omega, fun k hk => ?_⟩
        by_cases hkt : k = tn
        · simp only [hkt, if_true]; exact hc
        · simp only [hkt, if_false]; exact s7 k (by omega)
    · rw [show (200 : Int32) = nI 200 from rfl, nI_eq (by omega) (by omega)] at z; omega
  · have hge : tn = 200 := by
      rw [show (200 : Int32) = nI 200 from rfl, nI_ltI (by omega) (by omega)] at z3; omega
    refine ⟨fun _ => ?_, fun z => absurd rfl z⟩
    refine WPM.of (by decide) rfl (Nat.le_of_ble_eq_true rfl) (sg_X7_type_0 h7 (r_in ?_))
    rw [if_pos hc, ht']
    refine ⟨fun _ => ⟨fun z => ?_, fun _ => ⟨rfl, hI'⟩⟩, fun z => absurd z (by decide)⟩
    exact absurd (by rw [hge]; rfl) z
/-! bits counted -/
def bcF (x : Int32) : Int32 :=
  let v1 := x - (((x.toUInt32 >>> (Int32.toUInt32 1 &&& Int32.toUInt32 31)).toInt32) &&& 1431655765)
  let v2 := (v1 &&& 858993459) + (((v1.toUInt32 >>> (Int32.toUInt32 2 &&& Int32.toUInt32 31)).toInt32) &&& 858993459)
  let v3 := (v2 + ((v2.toUInt32 >>> (Int32.toUInt32 4 &&& Int32.toUInt32 31)).toInt32)) &&& 252645135
  let v4 := v3 + ((v3.toUInt32 >>> (Int32.toUInt32 8 &&& Int32.toUInt32 31)).toInt32)
  let v5 := v4 + ((v4.toUInt32 >>> (Int32.toUInt32 16 &&& Int32.toUInt32 31)).toInt32)
  v5 &&& 63
def popS (b : Int32) (a : Int32) (p : Nat) : Int32 := a + ((b >>> (nI p &&& 31)) &&& 1)
theorem bc_pop64 : ∀ a, a < 64 → ∀ b, b < 64 → bcF (nI (64 * a + b)) = foldF (popS (nI (64 * a + b))) 0 12 0 := by decide +kernel
theorem bc_pop12 (c : Nat) (h : c < 4096) : bcF (nI c) = foldF (popS (nI c)) 0 12 0 := by
  have := bc_pop64 (c / 64) (by omega) (c % 64) (by omega)
  rw [show 64 * (c / 64) + c % 64 = c by omega] at this
  exact this
theorem bc_pop5 : ∀ c, c < 32 → bcF (nI c) = foldF (popS (nI c)) 0 5 0 := by decide +kernel
theorem c_bitCount {T : Th} {M : Mm} {b : Int32} {Q : Int32 → Mm → Prop} (hq : Q (bcF b) M) : WPi T mJ6_bitCount_0f7a4 [.int b] M Q := by
  refine WPM.of (by decide) rfl (Nat.le_of_ble_eq_true rfl) (sg_J6_bitCount_0f7a4_0 ?_)
  intro v1 e1 v2 e2 v3 e3 v4 e4 v5 e5
  subst e5 e4 e3 e2 e1
  exact hq
theorem l_many {T : Th} {M : Mm} {b : Int32} {Q : Int32 → Mm → Prop} : ∀ (n i : Nat) (a : Int32), i + n = 5 → Q (foldF (popS b) i n a) M → WP T mX7_manyOf 4 [(0, .int b), (1, .int a), (2, .int (nI i))] [] M (qi Q) := by
  intro n
  induction n with
  | zero =>
    intro i a hi hq
    refine sg_X7_manyOf_4 ⟨fun _ => hq, fun z => absurd (nI_le (a := 5) (by omega) (by omega)) z⟩
  | succ n ih =>
    intro i a hi hq
    refine sg_X7_manyOf_4 ⟨fun z => absurd z (nI_ge (b := 5) (by omega) (by omega)), fun _ => ?_⟩
    rw [nI_1]
    simp only [forall_eq]
    exact ih (i + 1) _ (by omega) hq
theorem r_many {T : Th} {M : Mm} {b : Int32} {Q : Int32 → Mm → Prop} (hq : Q (foldF (popS b) 0 5 0) M) : WPi T mX7_manyOf [.int b] M Q :=
  WPM.of (by decide) rfl (Nat.le_of_ble_eq_true rfl) (sg_X7_manyOf_0 (l_many 5 0 0 (by omega) hq))
theorem e_count {T T' : Th} {x y : Nat} {M M' : Mm} {k : Int32} (hL : LayC T x) (h7 : isX7 T' y) (hI : Inv x y M M') : WPi T mX6_count [.ref x, .int k] M (fun r N => WPi T' mX7_count [.ref y, .int k] M' (fun r' N' => r' = r ∧ Inv x y N N')) := by
  have hI' := hI
  obtain ⟨G, F, S, I, tn, tb, tr, hC, hR, hS⟩ := hI
  have hg := hC.isG hL
  have hG := hC.2.1
  obtain ⟨c, hc, ec⟩ := hS.2.1
  have fin : ∀ r : Int32, ((k = 0 → r = G 0 6) ∧ (k = 1 → r = G 0 7) ∧ (k = 2 → r = bcF (nI c)) ∧ (k = 3 → r = nI S.2.1) ∧ (k = 4 → r = nI tn) ∧ (¬ k = 0 ∧ ¬ k = 1 ∧ ¬ k = 2 ∧ ¬ k = 3 ∧ ¬ k = 4 → r = -1)) → WPi T' mX7_count [.ref y, .int k] M' (fun r' N' => r' = r ∧ Inv x y M N') := by
    intro r hr
    refine WPM.of (by decide) rfl (Nat.le_of_ble_eq_true rfl) (sg_X7_count_0 h7 ?_)
    have loop : ∀ (n i : Nat) (a : Int32), i + n = 12 → foldF (popS (nI c)) i n a = bcF (nI c) → WP T' mX7_count 4 [(0, .ref y), (1, .int k), (2, .int a), (3, .int (nI i))] [] M' (qi (fun r' N' => r' = r ∧ Inv x y M N')) := by
      intro n
      induction n with
      | zero =>
        intro i a hi ha
        refine sg_X7_count_4 h7 ⟨fun _ => ?_, fun z => absurd (nI_le (a := 12) (by omega) (by omega)) z⟩
        rw [hR.1.2.2.2.2.1, hR.2.1.2.1, hR.2.2.2.1.2.1, hR.2.2.2.2.2.1.1]
        simp only [foldF] at ha
        exact ⟨fun z => ⟨(hr.1 z).symm, hI'⟩, fun z => ⟨(hr.2.1 z).symm, hI'⟩, fun z => ⟨by rw [hr.2.2.1 z]; exact ha, hI'⟩, fun z => ⟨(hr.2.2.2.1 z).symm, hI'⟩, fun z => ⟨(hr.2.2.2.2.1 z).symm, hI'⟩, fun z => ⟨(hr.2.2.2.2.2 z).symm, hI'⟩⟩
      | succ n ih =>
        intro i a hi ha
        refine sg_X7_count_4 h7 ⟨fun z => absurd z (nI_ge (b := 12) (by omega) (by omega)), fun _ => ?_⟩
        rw [nI_1, hR.2.1.1, ec]
        simp only [forall_eq]
        exact ih (i + 1) _ (by omega) ha
    exact loop 12 0 0 (by omega) (bc_pop12 c hc).symm
  refine WPM.of (by decide) rfl (Nat.le_of_ble_eq_true rfl) (sg_X6_count_0 hL.1 ?_)
  simp only [forall_eq]
  rw [hG.z, hC.2.2.2.1.2.2.1, hC.2.2.2.2.2.1.1, ec]
  refine ⟨fun z => ⟨hg, fin _ ?_⟩, fun z => ⟨hg, fin _ ?_⟩, fun z => ⟨hg, c_bitCount (fin _ ?_)⟩, fun z => fin _ ?_, fun z => fin _ ?_, fun z => fin _ ?_⟩
  all_goals grind
/-! rows copied -/
theorem l_toThen {T : Th} {M : Mm} {y : Nat} {wt : Int32} {Q : Mm → Prop} (h7 : isX7 T y) : ∀ (n i : Nat) (r : Nat → Int32), i + n = 31 → (∀ k, k < i → r k = M.1 (y + 17) k) → (∀ r', (∀ k, k < 31 → r' k = M.1 (y + 17) k) → Q (rT M y r' wt)) → WP T mX7_toThen 2 [(0, .ref y), (1, .int (nI i))] [] (rT M y r wt) (qv Q) := by
  intro n
  induction n with
  | zero =>
    intro i r hi hr hq
    refine sg_X7_toThen_2 h7 ⟨fun _ => hq r (fun k hk => hr k (by omega)), fun z => absurd (nI_le (a := 31) (by omega) (by omega)) z⟩
  | succ n ih =>
    intro i r hi hr hq
    refine sg_X7_toThen_2 h7 ⟨fun z => absurd z (nI_ge (b := 31) (by omega) (by omega)), fun _ => ⟨vp_nI (by omega) (by decide), vp_nI (by omega) (by decide), ?_⟩⟩
    rw [cl_nI (by omega), nI_1, rT_a 17 (by decide) (by decide)]
    simp only [forall_eq, rT_st]
    refine ih (i + 1) _ (by omega) (fun k hk => ?_) hq
    by_cases e : k = i
    · subst e; exact pk_us
    · rw [upd_nm _ _ e]; exact hr k (by omega)
theorem r_toThen {T : Th} {M : Mm} {y : Nat} {Q : Mm → Prop} (h7 : isX7 T y) (hq : ∀ r', (∀ k, k < 31 → r' k = M.1 (y + 17) k) → Q (rT M y r' (M.1 y 29))) : WPv T mX7_toThen [.ref y] M Q := by
  refine WPM.of (by decide) rfl (Nat.le_of_ble_eq_true rfl) (sg_X7_toThen_0 h7 ?_)
  have h := l_toThen (M := M) (wt := M.1 y 29) (Q := Q) h7 31 0 (M.1 (y + 18)) (by omega) (fun k hk => by omega) hq
  rw [rT_self] at h
  exact h
theorem Rw.cong {n : Nat} {B : Blk} {r r' : Nat → Int32} (hn : n ≤ 5) (h : Rw n B r) (e : ∀ k, k < 31 → r' k = r k) : Rw n B r' := by
  refine ⟨by rw [e 0 (by omega)]; exact h.1, fun w hw => ?_⟩
  rw [e _ (by omega), e _ (by omega), e _ (by omega), e _ (by omega), e _ (by omega), e _ (by omega)]
  exact h.2 w hw
/-- the caught of the row, as a set -/
def cauS (r : Nat → Int32) (a : Int32) (w : Nat) : Int32 := a ||| (r (21 + w) <<< (nI w &&& 31))
theorem cau_bits : ∀ n, n ≤ 5 → ∀ c, c < 2 ^ n → foldF (fun a w => a ||| ((if c.testBit w then (1 : Int32) else 0) <<< (nI w &&& 31))) 0 n 0 = nI c := by decide +kernel
theorem cau_eq {n : Nat} {B : Blk} {r : Nat → Int32} (hn : n ≤ 5) (h : Rw n B r) (hc : Wc n B) : foldF (cauS r) 0 n 0 = B 0 1 := by
  obtain ⟨c, h1, h2⟩ := hc
  rw [h2, ← cau_bits n hn c h1]
  refine foldF_cong n 0 0 (fun a w _ hw => ?_)
  unfold cauS
  rw [(h.2 w (by omega)).2.2.2.2.2, h2, bget_nI c (mask_32 hn h1) w (by omega)]
theorem l_cau {T : Th} {M : Mm} {y : Nat} {G : Blk} {Q : Int32 → Mm → Prop} (h7 : isX7 T y) (hG : RG M y G) (hW : WG G) : ∀ (n i : Nat) (a : Int32), i + n = nW G → Q (foldF (cauS (M.1 (y + 18))) i n a) M → WP T mX7_caughtThen 4 [(0, .ref y), (1, .int a), (2, .int (nI i))] [] M (qi Q) := by
  have h5 := nW_le G
  intro n
  induction n with
  | zero =>
    intro i a hi hq
    refine sg_X7_caughtThen_4 h7 ?_
    rw [hG.2.2.2.2.1, hW.2.1]
    exact ⟨fun _ => hq, fun z => absurd (nI_le (by omega) (by omega)) z⟩
  | succ n ih =>
    intro i a hi hq
    refine sg_X7_caughtThen_4 h7 ?_
    rw [hG.2.2.2.2.1, hW.2.1, p_21, cl_nI (by omega), nI_1]
    simp only [forall_eq]
    exact ⟨fun z => absurd z (nI_ge (by omega) (by omega)), fun _ => ⟨vp_nI (by omega) (by decide), ih (i + 1) _ (by omega) hq⟩⟩
theorem r_cau {T : Th} {M : Mm} {y : Nat} {G B : Blk} {Q : Int32 → Mm → Prop} (h7 : isX7 T y) (hG : RG M y G) (hW : WG G) (hr : Rw (nW G) B (M.1 (y + 18))) (hc : Wc (nW G) B) (hq : Q (B 0 1) M) : WPi T mX7_caughtThen [.ref y] M Q :=
  WPM.of (by decide) rfl (Nat.le_of_ble_eq_true rfl) (sg_X7_caughtThen_0 h7 (l_cau h7 hG hW (nW G) 0 0 (by omega) (by rw [cau_eq (nW_le G) hr hc]; exact hq)))
theorem e_now {T T' : Th} {x y : Nat} {M M' : Mm} {k : Int32} (hL : LayC T x) (h7 : isX7 T' y) (hI : Inv x y M M') : WPi T mX6_now [.ref x, .int k] M (fun r N => WPi T' mX7_now [.ref y, .int k] M' (fun r' N' => r' = r ∧ Inv x y N N')) := by
  obtain ⟨G, F, S, I, tn, tb, tr, hC, hR, hS⟩ := hI
  have h5 := nW_le G
  have hg := hC.isG hL
  have hG := hC.2.1
  have hN := hC.2.2.2.1.2.1
  have hW := hS.1
  have hr := hR.2.2.2.1.1
  obtain ⟨⟨t, ht, hwb⟩, hst⟩ := hS.2.2.2.1.2.1
  have fin : ∀ r : Int32, ((k = 0 → r = S.1 0 0) ∧ (k = 1 → r = G 0 0) ∧ (k = 2 → r = G 0 1) ∧ (k = 3 → r = G 0 2) ∧ (k = 4 → r = S.1 0 1) ∧ (k = 5 → r = workB G S.1) ∧ (¬ k = 0 ∧ ¬ k = 1 ∧ ¬ k = 2 ∧ ¬ k = 3 ∧ ¬ k = 4 ∧ ¬ k = 5 → r = -1)) → WPi T' mX7_now [.ref y, .int k] M' (fun r' N' => r' = r ∧ Inv x y M N') := by
    intro r hrr
    refine WPM.of (by decide) rfl (Nat.le_of_ble_eq_true rfl) (sg_X7_now_0 h7 ?_)
    have loop : ∀ (n i : Nat) (a : Int32), i + n = nW G → foldF (fun a w => if S.1 5 w < G 3 w then a else a ||| (1 <<< (nI w &&& 31))) i n a = workB G S.1 → WP T' mX7_now 4 [(0, .ref y), (1, .int k), (2, .int a), (3, .int (nI i))] [] M' (qi (fun r' N' => r' = r ∧ Inv x y M N')) := by
      intro n
      induction n with
      | zero =>
        intro i a hi ha
        refine sg_X7_now_4 h7 ?_
        rw [hR.1.2.2.2.2.1, hW.2.1]
        refine ⟨fun _ => r_toThen h7 (fun r' hr' => ?_), fun z => absurd (nI_le (by omega) (by omega)) z⟩
        have hI2 : Inv x y M (rT M' y r' (M'.1 y 29)) := ⟨G, F, S, I, tn, tb, tr, hC, hR.frame rT_FrR, hS⟩
        have hG2 : RG (rT M' y r' (M'.1 y 29)) y G := hR.1.T
        rw [rT_a 17 (by decide) (by decide), hG2.1, hG2.2.1, hG2.2.2.1, hr.1]
        simp only [foldF] at ha
        refine ⟨fun z => ⟨(hrr.1 z).symm, hI2⟩, fun z => ⟨(hrr.2.1 z).symm, hI2⟩, fun z => ⟨(hrr.2.2.1 z).symm, hI2⟩, fun z => ⟨(hrr.2.2.2.1 z).symm, hI2⟩, fun z => ?_, fun z => ⟨by rw [hrr.2.2.2.2.2.1 z]; exact ha, hI2⟩, fun z => ⟨(hrr.2.2.2.2.2.2 z).symm, hI2⟩⟩
        exact r_cau (B := S.1) h7 hG2 hW (by rw [rT_t]; exact hr.cong h5 hr') hwb.2.1 ⟨(hrr.2.2.2.2.1 z).symm, hI2⟩
      | succ n ih =>
        intro i a hi ha
        refine sg_X7_now_4 h7 ?_
        have r4 := (hr.2 i (by omega)).2.2.2.1
        rw [hR.1.2.2.2.2.1, hW.2.1, p_16, cl_nI (by omega), cl_nI (by omega), nI_1, r4, hR.2.1.2.2 i (by omega)]
        simp only [forall_eq]
        simp only [foldF] at ha
        refine ⟨fun z => absurd z (nI_ge (by omega) (by omega)), fun _ => ⟨vp_nI (by omega) (by decide), vp_nI (by omega) (by decide), fun z => ih (i + 1) _ (by omega) ?_, fun z => ih (i + 1) _ (by omega) ?_⟩⟩
        · rw [if_pos z] at ha; simpa using ha
        · rw [if_neg z] at ha; exact ha
    exact loop (nW G) 0 0 (by omega) rfl
  refine WPM.of (by decide) rfl (Nat.le_of_ble_eq_true rfl) (sg_X6_now_0 hL.1 ?_)
  simp only [forall_eq]
  rw [hG.z, hN.z]
  refine ⟨fun z => fin _ ?_, fun z => ⟨hg, fin _ ?_⟩, fun z => ⟨hg, fin _ ?_⟩, fun z => ⟨hg, fin _ ?_⟩, fun z => fin _ ?_, fun z => ⟨hg, c_work hg hL.1.2.2.2.2.2.1.2.1 hG hN (fin _ ?_)⟩, fun z => fin _ ?_⟩
  all_goals grind
