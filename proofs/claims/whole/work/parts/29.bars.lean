/-! WHO BARS the others -/
def feas (G B : Blk) (sp : Nat) : Bool := anyF (fun n => mayC (lkL G B).length sp n && safeF G (lkL G B) sp (dgs (lkL G B).length n) (B 0 1) 40 0 B) 0 (7 ^ (lkL G B).length)
theorem feas_c0 {G B : Blk} {sp : Nat} (h : ∀ a b c, boxP (lkL G B).length sp a b c → ¬ safeF G (lkL G B) sp (st3 a b c) (B 0 1) 40 0 B = true) : feas G B sp = false := by
  have hk3 := (lkL_in G B).1
  cases hf : feas G B sp
  · rfl
  · obtain ⟨n, -, n1, n2⟩ := (anyF_iff _ _ _).mp hf
    simp only [Bool.and_eq_true] at n2
    rw [← safe_cong (st := dgs (lkL G B).length n) (fun i hi => st3_d i (by omega))] at n2
    exact absurd n2.2 (h _ _ _ (tu_box n2.1))
theorem feas_c1 {G B : Blk} {sp a b c : Nat} (hx : boxP (lkL G B).length sp a b c) (hP : safeF G (lkL G B) sp (st3 a b c) (B 0 1) 40 0 B = true) : feas G B sp = true := by
  have hk3 := (lkL_in G B).1
  obtain ⟨n, n1, n2, n3, n4, n5⟩ := tu_code hk3 hx
  refine (anyF_iff _ _ _).mpr ⟨n, by omega, by omega, ?_⟩
  simp only [Bool.and_eq_true]
  refine ⟨n2, ?_⟩
  rw [← safe_cong (st := dgs (lkL G B).length n) (fun i hi => st3_d i (by omega)), n3, n4, n5]
  exact hP
theorem feas_r {G B : Blk} {sp : Nat} {b : Option Nat} (h : BOk (lkL G B).length sp (7 ^ (lkL G B).length) (fun n => safeF G (lkL G B) sp (dgs (lkL G B).length n) (B 0 1) 40 0 B) b) : bI (lkL G B).length b = -9 ↔ feas G B sp = false := by
  have hk3 := (lkL_in G B).1
  cases b with
  | none =>
    refine ⟨fun _ => ?_, fun _ => rfl⟩
    cases hf : feas G B sp
    · rfl
    · obtain ⟨n, -, n1, n2⟩ := (anyF_iff _ _ _).mp hf
      simp only [Bool.and_eq_true] at n2
      exact absurd n2.2 (h n (by omega) n2.1)
  | some c =>
    refine ⟨fun e => ?_, fun e => ?_⟩
    · have := dsm_le (lkL G B).length c
      have h0 := nI_pos' (n := dsm (lkL G B).length c) (by omega)
      rw [show nI (dsm (lkL G B).length c) = -9 from e] at h0
      exact absurd h0 (by decide)
    · have : feas G B sp = true := (anyF_iff _ _ _).mpr ⟨c, by omega, by have := h.1; omega, by simp only [Bool.and_eq_true]; exact ⟨h.2.1, h.2.2.1⟩⟩
      rw [e] at this; cases this
def barF (f : Nat → Bool) (L : List (Nat × Int32)) : Nat → Nat → Int32
  | _, 0 => -9
  | i, n + 1 => if f i then nI (lW L i) else barF f L (i + 1) n
section
variable {T T' : Th} {x y : Nat} {M M' : Mm}
theorem l_cbars {G F : Blk} {S : Stt} {I : Nat → Bool × Stt} {tn : Nat} {tb : Nat → Int32} {tr : Int64} {Q : Int32 → Mm → Prop} (hL : LayC T x) (hC : CI x M G F S I tn tb tr) :
    ∀ (n i sp : Nat) (N : Mm), i + n = (lkL G S.1).length → FrC x M N → PlC N (x + 3) (lkL G S.1) sp → (∀ N', FrC x M N' → Q (barF (feas G S.1) (lkL G S.1) i n) N') → WP T mX6_bars 30 [(0, .ref x), (1, .int (nI i))] [] N (qi Q) := by
  have hk3 := (lkL_in G S.1).1
  have h5 := nW_le G
  intro n
  induction n with
  | zero =>
    intro i sp N hi hf hp hq
    refine sg_X6_bars_30 hL.1 ?_
    rw [hp.1]
    exact ⟨fun _ => hq N hf, fun z => absurd (nI_le (by omega) (by omega)) z⟩
  | succ n ih =>
    intro i sp N hi hf hp hq
    refine sg_X6_bars_30 hL.1 ?_
    rw [hp.1]
    simp only [forall_eq]
    refine ⟨fun z => absurd z (nI_ge (by omega) (by omega)), fun _ => ⟨fun z => absurd z (nI_ge (b := 3) (by omega) (by omega)), fun _ => ?_⟩⟩
    have hf1 : FrC x M (sI N (x + 3) 1 (nI i)) := hf.trans (sI_FrC (by omega) (by omega))
    have o1 : ∀ a, a ≠ x + 3 → (sI N (x + 3) 1 (nI i)).1 a = N.1 a := fun a ha => by funext k; simp only [sI]; rw [if_neg (by omega)]
    have hp1 : PlC (sI N (x + 3) 1 (nI i)) (x + 3) (lkL G S.1) i := by
      refine ⟨by simp only [sI]; rw [if_neg (by omega)]; exact hp.1, ?_, fun j hj => by rw [o1 _ (by omega), o1 _ (by omega)]; exact hp.2.2 j hj⟩
      rw [show spI i = nI i from if_pos (by omega)]; simp [sI]
    simp only [barF] at hq
    refine c_findStarts (L := lkL G S.1) (sp := i) hL (hC.frame hf1) hp1 hk3 (fun i hi => by have := lW_in hi; omega) ⟨fun N2 f2 p2 hnone => ?_, fun N2 a b c f2 p2 hst hbx hP hn3 => ?_⟩
    · rw [nI_1]
      simp only [forall_eq]
      simp only [feas_c0 hnone] at hq
      exact ⟨fun _ => ih (i + 1) i N2 (by omega) (hf1.trans f2) p2 hq, fun z => absurd trivial z⟩
    · simp only [feas_c1 hbx hP, if_true] at hq
      refine ⟨fun z => absurd z (by decide), fun _ => ⟨vp_nI (by omega) (by decide), ?_⟩⟩
      rw [cl_nI (by omega), (p2.2.2 i (by omega)).1]
      exact hq N2 (hf1.trans f2)
theorem l_rbars {G B : Blk} {u : Nat} {Q : Int32 → Mm → Prop} (h7 : isX7 T' y) (hG : RG M' y G) (hW : WG G) (hw3 : ∀ w, w < nW G → M'.1 (y + 12) w = G 3 w) (hr : Rw (nW G) B (M'.1 (y + 17))) (hb : Wb (nW G) B u) (hu : u ≤ 999) :
    ∀ (n i : Nat) (N : Mm), i + n = (lkL G B).length → FrR y M' N → RLk N y (lkL G B) → (∀ N', FrR y M' N' → Q (barF (feas G B) (lkL G B) i n) N') → WP T' mX7_bars 16 [(0, .ref y), (1, .int (nI i))] [] N (qi Q) := by
  have hk3 := (lkL_in G B).1
  intro n
  induction n with
  | zero =>
    intro i N hi hf hl hq
    refine sg_X7_bars_16 h7 ?_
    rw [hl.1]
    exact ⟨fun _ => hq N hf, fun z => absurd (nI_le (by omega) (by omega)) z⟩
  | succ n ih =>
    intro i N hi hf hl hq
    refine sg_X7_bars_16 h7 ?_
    rw [hl.1]
    refine ⟨fun z => absurd z (nI_ge (by omega) (by omega)), fun _ => ?_⟩
    rw [show nI i = btI i from (if_pos (by omega)).symm]
    refine r_findStarts (sp := i) (u := u) h7 (hG.frame hf) hW (by rw [hf.1 12 (by decide) (by decide)]; exact hw3) (Or.inl (by omega)) (by rw [hf.1 17 (by decide) (by decide)]; exact hr) hb hu (fun N2 b g1 g2 g3 g4 => ?_)
    have hfe := feas_r g4
    rw [show btI i = nI i from if_pos (by omega), nI_1, cl_nI (by omega), (g2.2 i (by omega)).1]
    simp only [forall_eq]
    simp only [barF] at hq
    refine ⟨fun z => ?_, fun z => ⟨vp_nI (by omega) (by decide), ?_⟩⟩
    · simp only [hfe.mp z] at hq
      exact ih (i + 1) N2 (by omega) (hf.trans g1) g2 hq
    · have : feas G B i = true := by
        cases h : feas G B i
        · exact absurd (hfe.mpr h) z
        · rfl
      simp only [this, if_true] at hq
      exact hq N2 (hf.trans g1)
theorem e_bars (hL : LayC T x) (h7 : isX7 T' y) (hI : Inv x y M M') : WPi T mX6_bars [.ref x] M (fun r N => WPi T' mX7_bars [.ref y] M' (fun r' N' => r' = r ∧ Inv x y N N')) := by
  obtain ⟨G, F, S, I, tn, tb, tr, hC, hR, hS⟩ := hI
  have h5 := nW_le G
  have hW := hS.1
  have hg := hC.isG hL
  have hk3 := (lkL_in G S.1).1
  obtain ⟨⟨t, ht, hwb⟩, hws⟩ := hS.2.2.2.1.2.1
  have inv : ∀ N N', FrC x M N → FrR y M' N' → Inv x y N N' := fun N N' f g => ⟨G, F, S, I, tn, tb, tr, hC.frame f, hR.frame g, hS⟩
  refine WPM.of (by decide) rfl (Nat.le_of_ble_eq_true rfl) (sg_X6_bars_0 hL.1 ?_)
  simp only [forall_eq]
  refine ⟨hg, c_gather hL hC (fun N hf hp => ?_)⟩
  have ref : ∀ r, r = (if feas G S.1 5 then (-9 : Int32) else barF (feas G S.1) (lkL G S.1) 0 (lkL G S.1).length) → ∀ N2, FrC x M N2 → WPi T' mX7_bars [.ref y] M' (fun r' N' => r' = r ∧ Inv x y N2 N') := by
    intro r hr N2 f2
    refine WPM.of (by decide) rfl (Nat.le_of_ble_eq_true rfl) (sg_X7_bars_0 h7 (r_findStarts (M := M') (sp := 5) (u := t) h7 hR.1 hW hR.2.1.2.2 (Or.inr (by decide)) hR.2.2.2.1.1 hwb ht (fun N' b g1 g2 g3 g4 => ?_)))
    have hfe := feas_r g4
    refine ⟨fun z => ?_, fun z => ?_⟩
    · rw [hfe.mp z] at hr
      refine l_rbars h7 hR.1 hW hR.2.1.2.2 hR.2.2.2.1.1 hwb ht (lkL G S.1).length 0 N' (by omega) g1 g2 (fun N3 g5 => ⟨by rw [hr]; rfl, inv _ _ f2 g5⟩)
    · have : feas G S.1 5 = true := by
        cases h : feas G S.1 5
        · exact absurd (hfe.mpr h) z
        · rfl
      rw [this] at hr
      exact ⟨by rw [hr]; rfl, inv _ _ f2 g1⟩
  refine c_findStarts (L := lkL G S.1) (sp := 5) hL (hC.frame hf) hp hk3 (fun i hi => by have := lW_in hi; omega) ⟨fun N2 f2 p2 hnone => ?_, fun N2 a b c f2 p2 hst hbx hP hn3 => ?_⟩
  · refine ⟨fun _ => l_cbars hL hC (lkL G S.1).length 0 5 N2 (by omega) (hf.trans f2) p2 (fun N3 f3 => ref _ ?_ N3 f3), fun z => absurd rfl z⟩
    rw [feas_c0 hnone]; rfl
  · refine ⟨fun z => absurd z (by decide), fun _ => ref _ ?_ N2 (hf.trans f2)⟩
    rw [feas_c1 hbx hP]; rfl
end
