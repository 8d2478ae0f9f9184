/-! THE CLASS's WORLD -/
theorem cP_wB {M : Mm} {d p : Nat} {D : Blk} {r : Nat → Int32} (h : p < d ∨ d + 12 ≤ p) : cP M d p D r = wB (pM M p r) d 12 D := by
  unfold cP
  refine Prod.ext ?_ rfl
  funext a k
  simp only [pM, wB]
  by_cases e : a = p
  · subst e; rw [if_pos rfl, if_pos rfl, if_neg (by omega)]
  · rw [if_neg e, if_neg e]
section
variable {T : Th} {x : Nat} {M : Mm} {G F : Blk} {S : Stt} {I : Nat → Bool × Stt} {tn : Nat} {tb : Nat → Int32} {tr : Int64}
theorem CI.dr (hC : CI x M G F S I tn tb tr) : (M.2.2 x 7 = x + 220 ∧ M.2.2 x 8 = x + 232) ∨ (M.2.2 x 7 = x + 232 ∧ M.2.2 x 8 = x + 220) := hC.1
theorem c_world {Q : Int32 → Mm → Prop} (hL : LayC T x) (hC : CI x M G F S I tn tb tr) (htn : tn ≤ 200)
    (hbad : ∀ g N, prs tb tn (tn + 1) (rsD (bk M (M.2.2 x 8))) 0 0 = .inl g → g ≤ tn → CI x N G F S I tn tb tr → Q ((-10) - nI g) N)
    (hok : ∀ D' k' N C, prs tb tn (tn + 1) (rsD (bk M (M.2.2 x 8))) 0 0 = .inr (D', k') → WDr D' k' → k' ≤ tn → (D' 6 0 = 0 ∧ D' 6 1 = 0) → (∀ w, w < 5 → D' 10 w = 0) → (∀ w, w < 5 → D' 11 w = 0) → Ag (fun j => stB D' (6 + j)) C → CI x N (stB D') (fun j => stB D' (6 + j)) (C, 0, S.2.2) (fun _ => (false, S)) 0 tb tr → Q (nI k') N) : WPi T mX6_world [.ref x] M Q := by
  generalize hd : M.2.2 x 8 = d at hbad hok
  have hdd : (M.2.2 x 7 = x + 220 ∧ d = x + 232) ∨ (M.2.2 x 7 = x + 232 ∧ d = x + 220) := by rw [← hd]; exact hC.1
  have h1d : isX1 T d := by
    rcases hdd with q | q
    · rw [q.2]; exact hL.2.2.2.2.2
    · rw [q.2]; exact hL.2.2.2.2.1
  have hg := hC.isG hL
  have h4 : isX4 T (x + 1) := hL.1.2.1
  have hxd : x + 220 ≤ d ∧ d ≤ x + 232 := by rcases hdd with q | q <;> rw [q.2] <;> omega
  have zr := hC.2.2.2.2.2.2.2
  have zd : ∀ c, c = 6 ∨ c = 10 ∨ c = 11 → ∀ k, k < 5 → M.1 (d + c) k = 0 := fun c hc k hk => by
    rcases hdd with q | q <;> rw [q.2]
    · rw [show x + 232 + c = x + (232 + c) by omega]; exact zr (232 + c) (by omega) k hk
    · rw [show x + 220 + c = x + (220 + c) by omega]; exact zr (220 + c) (by omega) k hk
  refine WPM.of (by decide) rfl (Nat.le_of_ble_eq_true rfl) (sg_X6_world_0 hL.1 ?_)
  simp only [forall_eq]
  rw [hd]
  refine ⟨h1d, ?_⟩
  have hres := c_reset (T := T) (M := M) (d := d) (D := bk M d) (Q := fun M2 => isX1 T (M2.2.2 x 8) ∧ WPi T mX4_tell [.ref (x + 1), .ref (M2.2.2 x 8)] M2 (fun v5 M4 => (0 ≤ v5 → isX1 T (M4.2.2 x 8) ∧ WPv T mX1_settle [.ref (M4.2.2 x 8)] M4 (fun M7 => isX1 T (M7.2.2 x 7) ∧ isX1 T (M7.2.2 x 8) ∧ isX1 T ((sI (sR (sR M7 x 7 (M7.2.2 x 8)) x 8 (M7.2.2 x 7)) (x + 1) 1 0).2.2 x 7) ∧ WPv T mX5_begin [.ref (x + 16), .ref ((sI (sR (sR M7 x 7 (M7.2.2 x 8)) x 8 (M7.2.2 x 7)) (x + 1) 1 0).2.2 x 7 + 6)] (sI (sR (sR M7 x 7 (M7.2.2 x 8)) x 8 (M7.2.2 x 7)) (x + 1) 1 0) (fun M14 => Q v5 (sI (sI M14 (x + 84) 3 0) (x + 152) 3 0)))) ∧ (¬ 0 ≤ v5 → Q v5 M4))) h1d
  rw [wB_self] at hres
  refine hres ?_
  have e8 : (wB M d 12 (rsD (bk M d))).2.2 x 8 = d := hd
  rw [e8]
  refine ⟨h1d, ?_⟩
  obtain ⟨rw1, rw2, rw3, rw4⟩ := rs_wd (bk M d)
  refine c_tell (tb := tb) h4 h1d (by omega) htn hC.2.2.2.2.2.1.2 hC.2.2.2.2.2.1.1 rw1 ⟨fun D' k' r' e hW hk hz hr1 => ?_, fun g D' r' e hg hz hr1 => ?_⟩
  · -- told well
    have hz := rw2.trans hz
    have e8' : (cP M d (x + 1) D' r').2.2 x 8 = d := hd
    refine ⟨fun _ => ?_, fun z => absurd (nI_pos' (by omega)) z⟩
    rw [e8', cP_wB (by omega)]
    refine ⟨h1d, c_settle h1d ?_⟩
    generalize hE : stB D' = E
    have e7 : (wB (pM M (x + 1) r') d 12 E).2.2 x 7 = M.2.2 x 7 := rfl
    have e8'' : (wB (pM M (x + 1) r') d 12 E).2.2 x 8 = d := hd
    rw [e7, e8'']
    have er : (sI (sR (sR (wB (pM M (x + 1) r') d 12 E) x 7 d) x 8 (M.2.2 x 7)) (x + 1) 1 0).2.2 x 7 = d := by simp [sI, sR]
    rw [er]
    refine ⟨hg, h1d, h1d, ?_⟩
    generalize hM12 : sI (sR (sR (wB (pM M (x + 1) r') d 12 E) x 7 d) x 8 (M.2.2 x 7)) (x + 1) 1 0 = M12
    have o12 : ∀ a, (a < d ∨ d + 12 ≤ a) → a ≠ x + 1 → M12.1 a = M.1 a := fun a h1 h2 => by
      rw [← hM12]; funext k; simp only [sI, sR, wB, pM]; rw [if_neg (by omega), if_neg (by omega), if_neg h2]
    have d12 : ∀ j, j < 12 → M12.1 (d + j) = E j := fun j hj => by
      rw [← hM12]; funext k; simp only [sI, sR, wB]; rw [if_neg (by omega), if_pos (by omega), Nat.add_sub_cancel_left]
    have t12 : M12.1 (x + 1) 1 = 0 := by rw [← hM12]; simp [sI]
    have l12 : M12.2.1 = M.2.1 := by rw [← hM12]; rfl
    have r12' : ∀ a, a ≠ x → M12.2.2 a = M.2.2 a := fun a ha => by rw [← hM12]; funext k; simp only [sI, sR, wB, pM]; rw [if_neg (by omega), if_neg (by omega)]
    have x12 : M12.2.2 x 7 = d ∧ M12.2.2 x 8 = M.2.2 x 7 := by rw [← hM12]; simp [sI, sR]
    refine WPM.of (by decide) rfl (Nat.le_of_ble_eq_true rfl) (sg_X5_begin_0 hL.st h1d.2.2.2.2.2.2 ?_)
    have hF : GrC M12 (d + 6) (fun j => E (6 + j)) := fun j hj => by rw [Nat.add_assoc]; exact d12 (6 + j) (by omega)
    refine c_copyM hL.st.2.1 h1d.2.2.2.2.2.2 hF (by omega) (fun C c1 c2 c3 => ?_)
    simp only [forall_eq]
    generalize hN : sI (sI (sI (wB M12 (x + 16 + 1) 6 C) (x + 16) 2 0) (x + 84) 3 0) (x + 152) 3 0 = N
    have oN : ∀ a, (a < x + 17 ∨ x + 23 ≤ a) → a ≠ x + 16 → a ≠ x + 84 → a ≠ x + 152 → N.1 a = M12.1 a := fun a h1 h2 h3 h4 => by
      rw [← hN]; funext k; simp only [sI, wB]; rw [if_neg (by omega), if_neg (by omega), if_neg (by omega), if_neg (by omega)]
    have cN : ∀ j, j < 6 → N.1 (x + 17 + j) = C j := fun j hj => by
      rw [← hN]; funext k; simp only [sI, wB]; rw [if_neg (by omega), if_neg (by omega), if_neg (by omega), if_pos (by omega)]; congr 1; omega
    have sN : N.1 (x + 16) 2 = 0 := by rw [← hN]; simp [sI]
    have i0 : N.1 (x + 84) 3 = 0 := by rw [← hN]; simp [sI]
    have i1 : N.1 (x + 152) 3 = 0 := by rw [← hN]; simp [sI]
    have n2 : N.2 = M12.2 := by rw [← hN]; rfl
    have dN : ∀ j, j < 12 → N.1 (d + j) = E j := fun j hj => by rw [oN _ (by omega) (by omega) (by omega) (by omega)]; exact d12 j hj
    have rN : ∀ a, a ≠ x → N.2.2 a = M.2.2 a := fun a ha => by rw [n2]; exact r12' a ha
    obtain ⟨h1, h2, h3, ⟨h4', h5⟩, h6, h7, h8⟩ := hC
    rw [← hE] at dN c1 c2 c3
    refine hok D' k' N C e hW hk ?_ ?_ ?_ ⟨c1, c2, c3⟩ ⟨?_, ?_, ?_, ⟨?_, ?_⟩, fun k hk => ?_, ⟨?_, fun k hk => by omega⟩, ?_, ?_⟩
    · rw [hz.1]; exact ⟨zd 6 (by omega) 0 (by omega), zd 6 (by omega) 1 (by omega)⟩
    · intro w hw; rw [hz.2.1]; exact zd 10 (by omega) w hw
    · intro w hw; rw [hz.2.2]; exact zd 11 (by omega) w hw
    · rw [n2, x12.1, x12.2]
      rcases hdd with q | q
      · exact Or.inr ⟨q.2, q.1⟩
      · exact Or.inl ⟨q.2, q.1⟩
    · rw [n2, x12.1]; exact fun j hj => dN j (by omega)
    · rw [n2, x12.1]; exact fun j hj => by rw [Nat.add_assoc]; exact dN (6 + j) (by omega)
    · exact h4'.kept (rN _ (by omega))
    · exact ⟨fun j hj => cN j hj, sN, Nat.zero_le _, fun i hi => absurd hi (by show ¬ i < 0; omega)⟩
    · have hk' : k = 0 ∨ k = 1 := by omega
      refine ⟨(h6 k hk).1.kept (rN _ (by omega)), ?_, fun q => absurd (show false = true from q) (by decide)⟩
      rcases hk' with q | q <;> subst q
      · exact i0
      · exact i1
    · rw [oN _ (by omega) (by omega) (by omega) (by omega)]; exact t12
    · rw [n2, l12]; exact h8.1
    · intro c hc k hk
      rw [oN _ (by omega) (by omega) (by omega) (by omega)]
      by_cases q : d ≤ x + c ∧ x + c < d + 12
      · have hj : x + c = d + (x + c - d) := by omega
        have hjj : x + c - d = 6 ∨ x + c - d = 10 ∨ x + c - d = 11 := by rcases hdd with w | w <;> rw [w.2] at q ⊢ <;> omega
        rw [hj, d12 _ (by omega), ← hE]
        rcases hjj with w | w | w <;> rw [w]
        · rw [st_row (by decide) (by decide), hz.1]; exact zd 6 (by omega) k hk
        · rw [st_row (by decide) (by decide), hz.2.1]; exact zd 10 (by omega) k hk
        · rw [st_row (by decide) (by decide), hz.2.2]; exact zd 11 (by omega) k hk
      · rw [o12 _ (by omega) (by omega)]; exact zr c hc k hk
  · -- a fault
    have hz := rw2.trans hz
    have hneg : ¬ 0 ≤ (-10) - nI g := by
      have a1 := nI_pos' (n := g) (by omega)
      have a2 := nI_le (a := g) (b := 200) (by omega) (by omega)
      have a3 : nI g ≤ 200 := a2
      grind
    refine ⟨fun z => absurd z hneg, fun _ => hbad g _ e hg ?_⟩
    have o : ∀ a, (a < d ∨ d + 12 ≤ a) → a ≠ x + 1 → (cP M d (x + 1) D' r').1 a = M.1 a := fun a h1 h2 => cP_o h1 h2
    obtain ⟨h1, h2, h3, ⟨h4', h5⟩, h6, h7, h8⟩ := hC
    have og : M.2.2 x 7 + 12 ≤ d ∨ d + 12 ≤ M.2.2 x 7 := by rcases hdd with q | q <;> omega
    refine ⟨h1, h2.kept (fun j hj => o _ (by show M.2.2 x 7 + j < d ∨ d + 12 ≤ M.2.2 x 7 + j; omega) (by show M.2.2 x 7 + j ≠ x + 1; rcases hdd with q | q <;> omega)), h3.kept (fun j hj => o _ (by show M.2.2 x 7 + 6 + j < d ∨ d + 12 ≤ M.2.2 x 7 + 6 + j; omega) (by show M.2.2 x 7 + 6 + j ≠ x + 1; rcases hdd with q | q <;> omega)), ⟨h4'.kept rfl, h5.kept h4' rfl (fun a a1 a2 => o a (by omega) (by omega))⟩, fun k hk => ?_, ⟨?_, fun k hk => ?_⟩, h8.1, fun c hc k hk => ?_⟩
    · obtain ⟨a, b, c⟩ := h6 k hk
      exact ⟨a.kept rfl, by rw [o _ (by omega) (by omega)]; exact b, fun q => (c q).kept a rfl (fun a a1 a2 => o a (by omega) (by omega))⟩
    · rw [cP_p]; exact hr1
    · rw [o _ (by omega) (by omega)]; exact h7.2 k hk
    · by_cases q : d ≤ x + c ∧ x + c < d + 12
      · have hj : x + c = d + (x + c - d) := by omega
        have hjj : x + c - d = 6 ∨ x + c - d = 10 ∨ x + c - d = 11 := by rcases hdd with w | w <;> rw [w.2] at q ⊢ <;> omega
        rw [hj, cP_d _ (by omega) (by omega)]
        rcases hjj with w | w | w <;> rw [w]
        · rw [hz.1]; exact zd 6 (by omega) k hk
        · rw [hz.2.1]; exact zd 10 (by omega) k hk
        · rw [hz.2.2]; exact zd 11 (by omega) k hk
      · rw [o _ (by omega) (by omega)]; exact zr c hc k hk
end
