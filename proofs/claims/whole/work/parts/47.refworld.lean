/-! THE REFERENCE's WORLD: all items -/
theorem itm_no {tb : Nat → Int32} {tn k a f0 : Nat} {c : Int32} {D : Blk} (h : ¬ mayI D k c) : itm tb tn D k c a f0 = .inl f0 := by
  unfold mayI at h
  simp only [not_or, not_and] at h
  obtain ⟨h1, h2, h3, h4, h5, h6, h7⟩ := h
  unfold itm
  by_cases c1 : c = 98
  · rw [if_pos c1, if_pos (h1 c1)]
  · rw [if_neg c1, if_neg h2]
    by_cases c3 : c = 104
    · rw [if_pos c3, if_pos (Decidable.not_not.mp (h3 c3))]
    · rw [if_neg c3, if_neg h4]
      by_cases c5 : c = 114
      · rw [if_pos c5, if_pos (by have := h5 c5; omega)]
      · rw [if_neg c5]
        by_cases c6 : c = 115
        · rw [if_pos c6, if_pos (h6 c6)]
        · rw [if_neg c6]
          by_cases c7 : c = 119
          · rw [if_pos c7, if_pos (Decidable.not_not.mp (h7 c7))]
          · rw [if_neg c7]
theorem mayI_l {D : Blk} {k : Nat} {c : Int32} (h : mayI D k c) : 97 ≤ c := by
  unfold mayI at h
  rcases h with ⟨rfl, -⟩ | rfl | ⟨rfl, -⟩ | rfl | ⟨rfl, -⟩ | ⟨rfl, -⟩ | ⟨rfl, -⟩ <;> decide
section
variable {T : Th} {N N0 : Mm} {y tn : Nat} {tb : Nat → Int32}
theorem r_mayBe {r : Nat → Int32} {D : Blk} {k a : Nat} {Q : Int32 → Mm → Prop} (h7 : isX7 T y) (hA : RA y N D) (hS : RSs r D k) (hk : k ≤ 300) (hq1 : mayI D k (ltr (tkO tb tn a)) → Q 1 (pM N y r)) (hq0 : ¬ mayI D k (ltr (tkO tb tn a)) → Q 0 (pM N y r)) : WPi T mX7_mayBe [.ref y, .int (kR (tkO tb tn a))] (pM N y r) Q := by
  refine WPM.of (by decide) rfl (Nat.le_of_ble_eq_true rfl) (sg_X7_mayBe_0 h7 ?_)
  obtain ⟨s1, s2, s3⟩ := hS
  have z23 : r 23 = 0 ↔ k = 0 := by rw [s1]; exact nI_eq (b := 0) (by omega) (by omega)
  rw [pM_p, pM_c 8 (by decide), pM_c 7 (by decide), hA.1.2.2.2.2.2.1, hA.1.2.2.2.2.2.2, s2, s3, z23, kR_l _ _ _ 98 (by decide), kR_l _ _ _ 99 (by decide), kR_l _ _ _ 104 (by decide), kR_l _ _ _ 112 (by decide), kR_l _ _ _ 114 (by decide), kR_l _ _ _ 115 (by decide), kR_l _ _ _ 119 (by decide)]
  unfold mayI at hq1 hq0
  generalize ltr (tkO tb tn a) = c at hq1 hq0 ⊢
  refine ⟨fun z => ?_, fun z => ?_, fun z => ?_, fun z => ?_, fun z => ?_, fun z => ?_, fun z => ?_⟩
  · subst z
    simp at hq1 hq0
    exact ⟨fun q => hq0 q, fun q => hq1 q⟩
  · rcases z with z | z
    · exact hq1 (by simp [z])
    · exact hq1 (by simp [z])
  · subst z
    simp only [show ¬ ((104 : Int32) = 98) by decide, show ¬ ((104 : Int32) = 99) by decide, show ¬ ((104 : Int32) = 112) by decide, show ¬ ((104 : Int32) = 114) by decide, show ¬ ((104 : Int32) = 115) by decide, show ¬ ((104 : Int32) = 119) by decide, false_and, false_or, or_false, true_and] at hq1 hq0
    exact ⟨fun q => hq0 (fun w => w q), fun q => hq1 q⟩
  · subst z
    simp at hq1 hq0
    exact ⟨fun q => hq0 q, fun q => hq1 q⟩
  · subst z
    simp at hq1 hq0
    exact ⟨fun q => hq0 q, fun q => hq1 q⟩
  · subst z
    simp only [show ¬ ((119 : Int32) = 98) by decide, show ¬ ((119 : Int32) = 99) by decide, show ¬ ((119 : Int32) = 112) by decide, show ¬ ((119 : Int32) = 114) by decide, show ¬ ((119 : Int32) = 115) by decide, show ¬ ((119 : Int32) = 104) by decide, false_and, false_or, or_false, true_and] at hq1 hq0
    exact ⟨fun q => hq0 (fun w => w q), fun q => hq1 q⟩
  · obtain ⟨z1, z2, z3, z4, z5, z6, z7⟩ := z
    exact hq0 (by simp [z1, z2, z3, z4, z5, z6, z7])
def WPost (T : Th) (y : Nat) (N0 : Mm) (tb : Nat → Int32) (tn : Nat) (s : Nat ⊕ (Blk × Nat)) (Q : Int32 → Mm → Prop) : Prop :=
  (∀ D' k' N' r', s = .inr (D', k') → WDr D' k' → k' ≤ tn → RA y N' D' → RSs r' D' k' → r' 22 = -9 → r' 2 = nI tn → RFr y N0 N' → WP T mX7_world 182 [(0, .ref y)] [] (pM N' y r') (qi Q)) ∧ ∀ g N' r', s = .inl g → RBad tn r' g → RFr y N0 N' → WP T mX7_world 182 [(0, .ref y)] [] (pM N' y r') (qi Q)
theorem l_world105 {Q : Int32 → Mm → Prop} (h7 : isX7 T y) (htn : tn ≤ 200) (ht : ∀ k, k < tn → N0.1 (y + 1) k = (tb k).toInt8.toInt32) (hb : ∀ k, k < tn → 0 ≤ tb k ∧ tb k ≤ 255) :
    ∀ (f k a : Nat) (D : Blk) (N : Mm) (r : Nat → Int32), tn < a + f → k ≤ a → a ≤ tn → ROk tb tn r a → RA y N D → RSs r D k → RFr y N0 N → WDr D k → WPost T y N0 tb tn (prs tb tn f D k a) Q → WP T mX7_world 105 [(0, .ref y)] [] (pM N y r) (qi Q) := by
  have fault : ∀ (g : Nat) (N' : Mm) (r' : Nat → Int32), RBad tn r' g → WP T mX7_world 182 [(0, .ref y)] [] (pM N' y r') (qi Q) → WP T mX7_world 105 [(0, .ref y)] [] (pM N' y r') (qi Q) := by
    intro g N' r' hbd hQ
    refine sg_X7_world_105 h7 ⟨fun _ => hQ, fun z => ?_⟩
    rw [pM_p, hbd.2.1] at z
    exact absurd z (nI_m9 (by have := hbd.2.2.1; omega))
  have badUp : ∀ {r' : Nat → Int32} {f : Nat} {v : Int32}, RBad tn r' f → RBad tn (upd r' 23 v) f := fun ⟨y1, y2, y3, q, y4, y5⟩ => ⟨by rw [upd_nm _ _ (by decide)]; exact y1, by rw [upd_nm _ _ (by decide)]; exact y2, y3, q, y4, by rw [upd_nm _ _ (by decide)]; exact y5⟩
  intro f
  induction f with
  | zero => intro k a D N r h; omega
  | succ f ih =>
    intro k a D N r hf hka ha hok hA hS hF hW hq
    have t := tk_in (tb := tb) ha
    have hok' := hok
    obtain ⟨h2, h22, t18, t19, t20, t21, tv⟩ := hok'
    simp only [prs] at hq
    refine sg_X7_world_105 h7 ?_
    rw [pM_p, h22, t20, kR_3]
    refine ⟨fun z => absurd rfl z, fun _ => ⟨fun z => ?_, fun z => ?_⟩⟩
    · rw [if_pos z] at hq
      exact hq.1 D k N r rfl hW (by omega) hA hS h22 h2 hF
    · rw [if_neg z] at hq
      have hlt := t.2.2.2 z
      simp only [forall_eq]
      refine r_mayBe (tb := tb) (tn := tn) (a := a) h7 hA hS (by omega) (fun hm => ?_) (fun hm => ?_)
      · refine r_due1 h7 htn (tx (hF := hF) ht) hb ha hok (fun r1 c1 s1 => ?_)
        rw [pM_p, c1.2.1]
        refine ⟨fun z => absurd rfl z, fun _ => ?_⟩
        rw [(kR_l tb tn a _ (mayI_l hm)).mpr rfl]
        refine r_readRow (f0 := (tkO tb tn a).2.1) h7 htn ht hb t.2.2.1 c1 hA (hS.sl s1) hF hW hm ⟨fun D' a' N' r' e x1 x2 x3 x4 => ?_, fun g N' r' e x1 x2 => ?_⟩
        · have e' : itm tb tn D k (if (tkO tb tn a).1 = 1 then (tkO tb tn a).2.2.1 else 0) (tkO tb tn a).2.2.2 (tkO tb tn a).2.1 = .inr (D', a') := e
          simp only [e'] at hq
          obtain ⟨w1, w2, w3, w4⟩ := itm_wd hW t.2.2.1 e'
          have x1' := x1
          obtain ⟨p2, p22, q18, q19, q20, q21, qv⟩ := x1'
          dsimp only
          rw [pM_p, q20, kR_2]
          refine ⟨fun z => r_due0 h7 w3 x1 (fun m r2 hm b1 sl => ?_), fun z => r_due1 h7 htn (tx (hF := x4) ht) hb w3 x1 (fun r2 b1 sl => ?_)⟩
          · have es : spE tb tn a' = .inl (tkO tb tn a').2.1 := by unfold spE; rw [if_neg z]
            simp only [es] at hq
            rw [pM_s]
            exact fault _ N' _ (badUp b1) (hq.2 _ N' _ rfl (badUp b1) x4)
          · have es : spE tb tn a' = .inr (tkO tb tn a').2.2.2 := by unfold spE; rw [if_pos z]
            simp only [es] at hq
            obtain ⟨y1, y2⟩ := spE_in w3 es
            rw [pM_p, pM_s]
            obtain ⟨g1, g2, g3⟩ := x3.sl sl
            rw [g1, nI_1]
            refine ih (k + 1) _ D' N' _ (by omega) (by omega) y2 ?_ x2 ⟨upd_s _ _ _, by rw [upd_nm _ _ (by decide)]; exact g2, by rw [upd_nm _ _ (by decide)]; exact g3⟩ x4 w1 hq
            obtain ⟨y1, y2, y3, y4, y5, y6, y7⟩ := b1
            exact ⟨by rw [upd_nm _ _ (by decide)]; exact y1, by rw [upd_nm _ _ (by decide)]; exact y2, by rw [upd_nm _ _ (by decide)]; exact y3, by rw [upd_nm _ _ (by decide)]; exact y4, by rw [upd_nm _ _ (by decide)]; exact y5, by rw [upd_nm _ _ (by decide)]; exact y6, by rw [upd_nm _ _ (by decide)]; exact y7⟩
        · have e' : itm tb tn D k (if (tkO tb tn a).1 = 1 then (tkO tb tn a).2.2.1 else 0) (tkO tb tn a).2.2.2 (tkO tb tn a).2.1 = .inl g := e
          simp only [e'] at hq
          have go : ∀ x : Int32, WPi T mX7_due [.ref y, .int x] (pM N' y r') (fun v8 M7 => ∀ M9 : Mm, M9 = sI M7 y 23 ((M7.1 y 23) + 1) → WP T mX7_world 105 [(0, .ref y)] [] M9 (qi Q)) := fun x => r_dueB h7 htn x1 (fun m hm => by
            intro M9 e9
            rw [e9, pM_s]
            exact fault _ N' _ (badUp x1) (hq.2 _ N' _ rfl (badUp x1) x2))
          have g0 := go 0
          have g1 := go 1
          simp only [forall_eq] at g0 g1
          exact ⟨fun _ => g0, fun _ => g1⟩
      · refine r_due0 h7 ha hok (fun m r1 hm1 b1 s1 => ?_)
        have e' : itm tb tn D k (if (tkO tb tn a).1 = 1 then (tkO tb tn a).2.2.1 else 0) (tkO tb tn a).2.2.2 (tkO tb tn a).2.1 = .inl (tkO tb tn a).2.1 := itm_no hm
        simp only [e'] at hq
        rw [pM_p, b1.2.1]
        exact ⟨fun _ => fault _ N _ b1 (hq.2 _ N _ rfl b1 hF), fun z => absurd z (nI_m9 (by have := b1.2.2.1; omega))⟩
end
