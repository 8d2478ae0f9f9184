theorem CI.trc {x : Nat} {M N : Mm} {G F : Blk} {S : Stt} {I : Nat → Bool × Stt} {tn : Nat} {tb : Nat → Int32} {tr tr' : Int64} (hC : CI x M G F S I tn tb tr) (o1 : N.1 = M.1) (o2 : N.2.2 = M.2.2) (ht : N.2.1 x 9 = tr') : CI x N G F S I tn tb tr' := by
  obtain ⟨h1, h2, h3, ⟨h4, h5⟩, h6, h7, h8⟩ := hC
  unfold CI
  rw [o2, o1]
  refine ⟨h1, h2.kept (fun j hj => by rw [o1]), h3.kept (fun j hj => by rw [o1]), ⟨h4.kept (by rw [o2]), h5.kept h4 (by rw [o2]) (fun a _ _ => by rw [o1])⟩, fun k hk => ?_, h7, ht, h8.2.kept (fun c hc => by rw [o1])⟩
  obtain ⟨a, b, c⟩ := h6 k hk
  exact ⟨a.kept (by rw [o2]), b, fun q => (c q).kept a (by rw [o2]) (fun a _ _ => by rw [o1])⟩
theorem RI.trc {y : Nat} {M N : Mm} {G F : Blk} {S : Stt} {I : Nat → Bool × Stt} {tn : Nat} {tb : Nat → Int32} {tr tr' : Int64} (hR : RI y M G F S I tn tb tr) (o1 : N.1 = M.1) (ht : N.2.1 y 0 = tr') : RI y N G F S I tn tb tr' := by
  obtain ⟨h1, h2, h3, h4, h5, h6, h8⟩ := hR
  unfold RI RG
  rw [o1]
  exact ⟨h1, h2, h3, h4, h5, h6, ht⟩
section
variable {T : Th} {x j : Nat} {M : Mm} {G F : Blk} {S : Stt} {I : Nat → Bool × Stt} {tn : Nat} {tb : Nat → Int32} {tr : Int64} {Q : Int32 → Mm → Prop}
theorem sL_trc (hC : CI x M G F S I tn tb tr) {N : Mm} {v : Int64} (e : N = sL M x 9 (M.2.1 x 9 + v)) : CI x N G F S I tn tb (tr + v) :=
  hC.trc (by rw [e]; rfl) (by rw [e]; rfl) (by rw [e, hC.2.2.2.2.2.2.1]; simp [sL])
theorem c_wagonMark (hL : LayC T x) (hC : CI x M G F S I tn tb tr) (hj : j < 5) (hq : ∀ N, CI x N G F S I tn tb (tr + 1) → Q (S.1 1 j) N) : WPi T mX6_wagonMark [.ref x, .int (nI j)] M Q := by
  refine WPM.of (by decide) rfl (Nat.le_of_ble_eq_true rfl) (sg_X6_wagonMark_0 hL.1 ?_)
  intro N e
  have h := sL_trc hC e
  refine ⟨vp_nI hj (by decide), ?_⟩
  rw [cl_nI (by omega), h.2.2.2.1.2.1 1 (by decide)]
  exact hq N h
theorem c_forgeMark (hL : LayC T x) (hC : CI x M G F S I tn tb tr) (hj : j < 5) (hq : ∀ N, CI x N G F S I tn tb (tr + 11) → Q (S.1 1 j + S.1 5 j) N) : WPi T mX6_forgeMark [.ref x, .int (nI j)] M Q := by
  refine WPM.of (by decide) rfl (Nat.le_of_ble_eq_true rfl) (sg_X6_forgeMark_0 hL.1 ?_)
  intro N e
  have h := sL_trc hC e
  refine c_wagonMark hL h hj (fun N2 h2 => ⟨vp_nI hj (by decide), ?_⟩)
  rw [cl_nI (by omega), h2.2.2.2.1.2.1 5 (by decide)]
  rw [show tr + 10 + 1 = tr + 11 by grind] at h2
  exact hq N2 h2
theorem c_chapelMark (hL : LayC T x) (hC : CI x M G F S I tn tb tr) (hj : j < 5) (hq : ∀ N, CI x N G F S I tn tb (tr + 101) → Q (S.1 1 j - G 2 j) N) : WPi T mX6_chapelMark [.ref x, .int (nI j)] M Q := by
  refine WPM.of (by decide) rfl (Nat.le_of_ble_eq_true rfl) (sg_X6_chapelMark_0 hL.1 ?_)
  intro N e
  have h := sL_trc hC e
  refine c_wagonMark hL h hj (fun N2 h2 => ?_)
  simp only [forall_eq]
  refine ⟨h2.isG hL, vp_nI hj (by decide), ?_⟩
  rw [cl_nI (by omega), h2.2.1 2 (by decide)]
  rw [show tr + 100 + 1 = tr + 101 by grind] at h2
  exact hq N2 h2
theorem c_tenderMark (hL : LayC T x) (hC : CI x M G F S I tn tb tr) (hj : j < 5) (hq : ∀ N, CI x N G F S I tn tb (tr + 1011) → Q ((S.1 1 j + S.1 5 j) * 2) N) : WPi T mX6_tenderMark [.ref x, .int (nI j)] M Q := by
  refine WPM.of (by decide) rfl (Nat.le_of_ble_eq_true rfl) (sg_X6_tenderMark_0 hL.1 ?_)
  intro N e
  have h := sL_trc hC e
  refine c_forgeMark hL h hj (fun N2 h2 => ?_)
  rw [show tr + 1000 + 11 = tr + 1011 by grind] at h2
  exact hq N2 h2
theorem c_houseMark (hL : LayC T x) (hC : CI x M G F S I tn tb tr) (hj : j < 5) (hq : ∀ N, CI x N G F S I tn tb (tr + 10101) → Q (S.1 1 j - G 2 j + S.1 2 j) N) : WPi T mX6_houseMark [.ref x, .int (nI j)] M Q := by
  refine WPM.of (by decide) rfl (Nat.le_of_ble_eq_true rfl) (sg_X6_houseMark_0 hL.1 ?_)
  intro N e
  have h := sL_trc hC e
  refine c_chapelMark hL h hj (fun N2 h2 => ⟨vp_nI hj (by decide), ?_⟩)
  rw [cl_nI (by omega), h2.2.2.2.1.2.1 2 (by decide)]
  rw [show tr + 10000 + 101 = tr + 10101 by grind] at h2
  exact hq N2 h2
theorem c_railcartMark (hL : LayC T x) (hC : CI x M G F S I tn tb tr) (hj : j < 5) (hq : ∀ N, CI x N G F S I tn tb (tr + 100001) → Q (S.1 1 j + S.1 1 j - sunW G (S.1 0 0) (G 0 2)) N) : WPi T mX6_railcartMark [.ref x, .int (nI j)] M Q := by
  refine WPM.of (by decide) rfl (Nat.le_of_ble_eq_true rfl) (sg_X6_railcartMark_0 hL.1 ?_)
  intro N e
  have h := sL_trc hC e
  simp only [forall_eq]
  refine ⟨h.isG hL, h.isG hL, c_sunWay (h.isG hL) h.2.1 (c_wagonMark hL h hj (fun N2 h2 => ⟨vp_nI hj (by decide), ?_⟩))⟩
  rw [cl_nI (by omega), h2.2.2.2.1.2.1 1 (by decide), h.2.1.z, h.2.2.2.1.2.1.z]
  rw [show tr + 100000 + 1 = tr + 100001 by grind] at h2
  exact hq N2 h2
end
def aMark (G N : Blk) (k : Int32) (j : Nat) : Int32 × Int64 :=
  if k = 0 then (N 1 j, 1) else if k = 1 then (N 1 j + N 5 j, 11) else if k = 2 then (N 1 j - G 2 j, 101) else if k = 3 then ((N 1 j + N 5 j) * 2, 1011) else if k = 4 then (N 1 j - G 2 j + N 2 j, 10101) else (N 1 j + N 1 j - sunW G (N 0 0) (G 0 2), 100001)
theorem r_mark {T : Th} {y : Nat} {M : Mm} {G F : Blk} {S : Stt} {I : Nat → Bool × Stt} {tn : Nat} {tb : Nat → Int32} {tr : Int64} {k w : Int32} {Q : Int32 → Mm → Prop} (h7 : isX7 T y) (hR : RI y M G F S I tn tb tr) (hW : WG G)
    (hbad : ¬ (0 ≤ k ∧ k ≤ 5 ∧ hasWg G w = true) → Q (-1000000) M) (hq : 0 ≤ k ∧ k ≤ 5 → ∀ j, j < nW G → w = nI j → ∀ N, RI y N G F S I tn tb (tr + (aMark G S.1 k j).2) → Q (aMark G S.1 k j).1 N) : WPi T mX7_mark [.ref y, .int k, .int w] M Q := by
  refine WPM.of (by decide) rfl (Nat.le_of_ble_eq_true rfl) (sg_X7_mark_0 h7 (r_in ?_))
  have h5 := nW_le G
  by_cases hk : 0 ≤ k ∧ k ≤ 5
  · rw [if_pos hk]
    refine ⟨fun z => absurd z (by decide), fun _ => r_isWagon h7 hR.1 hW ?_⟩
    by_cases hw : hasWg G w = true
    · obtain ⟨j, hj, rfl, hj5⟩ := hasWg_nI hW hw
      have hq := hq hk j hj rfl
      obtain ⟨r1, r2, r3, r4, r5, r6⟩ := hR.2.2.2.1.1.2 j hj
      have tru : ∀ (N : Mm) (v : Int64), N = sL M y 0 (M.2.1 y 0 + v) → RI y N G F S I tn tb (tr + v) ∧ N.1 = M.1 := fun N v e => ⟨hR.trc (by rw [e]; rfl) (by rw [e, hR.2.2.2.2.2.2]; simp [sL]), by rw [e]; rfl⟩
      simp only [hw, b2i, if_true]
      rw [p_1, p_16, p_26, cl_nI (by omega), cl_nI (by omega), cl_nI (by omega), cl_nI (by omega), r1]
      refine ⟨fun _ => ⟨vp_nI (by omega) (by decide), ?_⟩, fun z => absurd z (by decide)⟩
      intro v5 e5
      subst e5
      refine ⟨fun z N e => ?_, fun z N e => ?_, fun z N e => ?_, fun z N e => ?_, fun z N e => ?_, fun z N e => ?_⟩
      · subst z; exact hq N (tru N _ e).1
      · subst z
        refine ⟨vp_nI (by omega) (by decide), ?_⟩
        rw [(tru N _ e).2, r4]; exact hq N (tru N _ e).1
      · subst z
        refine ⟨vp_nI (by omega) (by decide), ?_⟩
        rw [(tru N _ e).2, hR.1.2.2.2.2.2.2 j hj]; exact hq N (tru N _ e).1
      · subst z
        refine ⟨vp_nI (by omega) (by decide), ?_⟩
        have h := hq N (tru N _ e).1
        rw [(tru N _ e).2, r4, show (2 : Int32) * (S.1 1 j + S.1 5 j) = (S.1 1 j + S.1 5 j) * 2 by grind]; exact h
      · subst z
        refine ⟨vp_nI (by omega) (by decide), vp_nI (by omega) (by decide), ?_⟩
        rw [(tru N _ e).2, r5, hR.1.2.2.2.2.2.2 j hj]; exact hq N (tru N _ e).1
      · have h := tru N _ e
        rw [h.2, hR.2.2.2.1.1.1]
        refine r_sunAt h7 h.1.1 hW ?_
        simp only [aMark, z.1, z.2, if_false] at hq
        exact hq N h.1
    · simp only [hw, b2i, if_false]
      exact ⟨fun z => absurd rfl z, fun _ => hbad (fun q => hw q.2.2)⟩
  · rw [if_neg hk]
    exact ⟨fun _ => hbad (fun q => hk ⟨q.1, q.2.1⟩), fun z => absurd rfl z⟩
theorem e_mark {T T' : Th} {x y : Nat} {M M' : Mm} {k w : Int32} (hL : LayC T x) (h7 : isX7 T' y) (hI : Inv x y M M') : WPi T mX6_mark [.ref x, .int k, .int w] M (fun r N => WPi T' mX7_mark [.ref y, .int k, .int w] M' (fun r' N' => r' = r ∧ Inv x y N N')) := by
  have hI' := hI
  obtain ⟨G, F, S, I, tn, tb, tr, hC, hR, hS⟩ := hI
  have h5 := nW_le G
  have hW := hS.1
  have hg := hC.isG hL
  have bad : ¬ (0 ≤ k ∧ k ≤ 5 ∧ hasWg G w = true) → WPi T' mX7_mark [.ref y, .int k, .int w] M' (fun r' N' => r' = -1000000 ∧ Inv x y M N') := fun h =>
    r_mark h7 hR hW (fun _ => ⟨rfl, hI'⟩) (fun hk j hj e => absurd ⟨hk.1, hk.2, by
      rw [e]; unfold hasWg; rw [hW.2.1]
      exact decide_eq_true ⟨nI_pos' (by omega), nI_lt hj (by omega), nI_lt (b := 5) (by omega) (by omega)⟩⟩ h)
  refine WPM.of (by decide) rfl (Nat.le_of_ble_eq_true rfl) (sg_X6_mark_0 hL.1 ?_)
  refine ⟨fun z => bad (by grind), fun z => ⟨fun z2 => bad (by grind), fun z2 => ?_⟩⟩
  simp only [forall_eq]
  refine ⟨hg, c_hasWagon hg hC.2.1 ?_⟩
  by_cases hw : hasWg G w = true
  · have hk : 0 ≤ k ∧ k ≤ 5 := by grind
    obtain ⟨j, hj, rfl, hj5⟩ := hasWg_nI hW hw
    simp only [hw, b2i, if_true]
    refine ⟨fun _ => ?_, fun z => absurd z (by decide)⟩
    have fin : ∀ N, CI x N G F S I tn tb (tr + (aMark G S.1 k j).2) → ∀ r, r = (aMark G S.1 k j).1 → WPi T' mX7_mark [.ref y, .int k, .int (nI j)] M' (fun r' N' => r' = r ∧ Inv x y N N') := by
      intro N hN r hr
      refine r_mark h7 hR hW (fun q => absurd ⟨hk.1, hk.2, hw⟩ q) (fun _ j' hj' e N' hN' => ?_)
      have : j = j' := (nI_eq (by omega) (by omega)).mp e
      subst this
      exact ⟨hr.symm, G, F, S, I, tn, tb, _, hN, hN', hS⟩
    refine ⟨fun q => c_wagonMark hL hC hj5 (fun N hN => fin N ?_ _ ?_), fun q => c_forgeMark hL hC hj5 (fun N hN => fin N ?_ _ ?_), fun q => c_chapelMark hL hC hj5 (fun N hN => fin N ?_ _ ?_), fun q => c_tenderMark hL hC hj5 (fun N hN => fin N ?_ _ ?_), fun q => c_houseMark hL hC hj5 (fun N hN => fin N ?_ _ ?_), fun q => c_railcartMark hL hC hj5 (fun N hN => fin N ?_ _ ?_)⟩
    · subst q; exact hN
    · subst q; rfl
    · subst q; exact hN
    · subst q; rfl
    · subst q; exact hN
    · subst q; rfl
    · subst q; exact hN
    · subst q; rfl
    · subst q; exact hN
    · subst q; rfl
    · simp only [aMark, q.1, q.2, if_false]; exact hN
    · simp only [aMark, q.1, q.2, if_false]
  · simp only [hw, b2i, if_false]
    exact ⟨fun z => absurd rfl z, fun _ => bad (fun q => hw q.2.2)⟩
