/-! THE FIRST STATE: both are alike -/
theorem rz_o (j l : Nat) (h : j ≠ 1) : rsD Zb j l = rsB Zb j l := (fold_u1 12 0 (rsB Zb)).1 j l h
theorem rz_1 {l : Nat} (h : l < 12) : rsD Zb 1 l = 1 := by
  have h1 := (fold_u1 12 0 (rsB Zb)).2 l
  rw [if_pos (by omega)] at h1
  exact h1
theorem rz_2 {j : Nat} (h : 2 ≤ j) (l : Nat) : rsD Zb j l = 0 := by
  rw [rz_o j l (by omega)]
  simp [rsB, ub, Zb, show j ≠ 0 by omega]
theorem rz_0 (k : Nat) : rsD Zb 0 k = rsB Zb 0 k := rz_o 0 k (by decide)
theorem rz_W : nW (rsD Zb) = 0 := by
  unfold nW
  rw [rz_0]
  rfl
theorem W0_g {x j : Nat} (h : j < 12) : (W0 x).1 (x + 220 + j) = rsD Zb j := by
  funext k
  simp only [W0, Gm, wB]
  rw [if_neg (by omega), if_pos (by omega), if_pos (by omega), Nat.add_sub_cancel_left]
theorem W0_d {x j : Nat} (h : j < 12) : (W0 x).1 (x + 232 + j) = rsD Zb j := by
  funext k
  simp only [W0, Gm, wB]
  rw [if_neg (by omega), if_neg (by omega), if_pos (by omega), Nat.add_sub_cancel_left]
theorem W0_z {x q : Nat} (h : q < x + 220) : (W0 x).1 q = Zb 0 := by
  funext k
  simp only [W0, Zb]
  rw [if_pos h]
theorem W0_l {x c i : Nat} (hc : c = 23 ∨ c = 91 ∨ c = 159) : (W0 x).2.2 (x + c) i = x + c + 1 + 6 * i := by
  simp only [W0]
  rcases hc with rfl | rfl | rfl
  · rw [if_neg (by omega), if_pos rfl]
  · rw [if_neg (by omega), if_neg (by omega), if_pos rfl]
  · rw [if_neg (by omega), if_neg (by omega), if_neg (by omega), if_pos rfl]
theorem W0_St {x s : Nat} (hs : s = 16 ∨ s = 84 ∨ s = 152) : StL (W0 x) (x + s) := ⟨fun i => i, fun i hi => ⟨hi, by
  rw [show x + s + 7 = x + (s + 7) by omega, W0_l (by omega)]
  show x + (s + 7) + 1 + 6 * i = x + s + 8 + 6 * i
  omega⟩, fun i j _ _ h => h⟩
def S0 : Stt := (Zb, 0, fun _ => Zb)
def I0 : Nat → Bool × Stt := fun _ => (false, S0)
theorem CI_0 {x : Nat} : CI x (W0 x) (rsD Zb) Zb S0 I0 0 (fun _ => 0) 0 := by
  have e7 : (W0 x).2.2 x 7 = x + 220 := by simp [W0]
  have e8 : (W0 x).2.2 x 8 = x + 232 := by simp [W0]
  unfold CI
  rw [e7, e8]
  refine ⟨Or.inl ⟨rfl, rfl⟩, fun j hj => W0_g (by omega), fun j hj => ?_, ⟨W0_St (Or.inl rfl), ⟨fun j hj => ?_, ?_, by decide, fun i hi => absurd hi (by show ¬ i < 0; omega)⟩⟩, fun k hk => ⟨?_, ?_, fun h => by cases h⟩, ⟨?_, fun k hk => absurd hk (by omega)⟩, rfl, ?_⟩
  · rw [Nat.add_assoc, W0_g (by omega)]
    funext l
    exact rz_2 (by omega) l
  · rw [W0_z (by omega)]
    rfl
  · rw [W0_z (by omega)]
    rfl
  · rw [Nat.add_assoc]
    exact W0_St (by omega)
  · rw [W0_z (by omega)]
    rfl
  · rw [W0_z (by omega)]
    rfl
  · intro c hc k hk
    by_cases h : c < 232
    · rw [show x + c = x + 220 + (c - 220) by omega, W0_g (by omega)]
      exact rz_2 (by omega) k
    · rw [show x + c = x + 232 + (c - 232) by omega, W0_d (by omega)]
      exact rz_2 (by omega) k
theorem R0_z {y q k : Nat} (h : q ≠ y + 2 ∧ q ≠ y + 3 ∧ q ≠ y + 4 ∧ q ≠ y + 5 ∧ q ≠ y + 9) : (R0 y).1 q k = 0 := by
  simp only [R0]
  rw [if_neg h.1, if_neg h.2.1, if_neg h.2.2.1, if_neg h.2.2.2.1, if_neg h.2.2.2.2]
theorem RI_0 {y : Nat} : RI y (R0 y) (rsD Zb) Zb S0 I0 0 (fun _ => 0) 0 := by
  unfold RI RG RStt
  rw [rz_W]
  refine ⟨⟨by simp [R0, rz_0]; rfl, by simp [R0, rz_0]; rfl, by simp [R0, rz_0]; rfl, by simp [R0, rz_0]; rfl, ?_, fun p hp => ?_, fun w hw => absurd hw (by omega)⟩, ⟨?_, ?_, fun w hw => absurd hw (by omega)⟩, ⟨fun w hw => absurd hw (by omega), fun w _ => ?_⟩, ⟨⟨?_, fun w hw => absurd hw (by omega)⟩, ?_, fun i hi => absurd hi (by show ¬ i < 0; omega)⟩, fun k hk => ⟨?_, fun h => by cases h⟩, ⟨?_, fun k hk => absurd hk (by omega)⟩, rfl⟩
  · rw [R0_z (by omega), rz_0]; rfl
  · rw [rz_1 hp]
    simp [R0, fX7, hp]
  · rw [R0_z (by omega), rz_0]; rfl
  · rw [R0_z (by omega), rz_0]; rfl
  · rw [R0_z (by omega)]; decide
  · rw [R0_z (by omega)]; rfl
  · rw [R0_z (by omega)]; rfl
  · rw [R0_z (by omega)]; rfl
  · rw [R0_z (by omega)]; rfl
theorem WS_0 : WS (rsD Zb) Zb S0 I0 0 (fun _ => 0) := by
  unfold WS WSt
  rw [rz_W]
  refine ⟨⟨⟨8, by decide, by decide, by rw [rz_0]; rfl⟩, ?_, ?_, ?_, Or.inl (by rw [rz_0]; rfl), fun p hp => by rw [rz_1 hp]; decide, fun w hw => absurd hw (by rw [rz_W]; omega)⟩, ⟨0, by decide, by rw [rz_0]; rfl⟩, ⟨rfl, rfl, fun w hw => absurd hw (by omega)⟩, ⟨by decide, ⟨⟨0, by decide, rfl, ?_, fun w hw => absurd hw (by omega)⟩, fun w hw => absurd hw (by omega)⟩, fun i hi => absurd hi (by show ¬ i < 0; omega)⟩, fun k hk h => (by cases h), by decide, fun k hk => absurd hk (by omega)⟩
  · rw [rz_W, rz_0]; rfl
  · rw [rz_0]; decide
  · rw [rz_0]; decide
  · exact ⟨0, by decide, rfl⟩
theorem Inv_0 {x y : Nat} : Inv x y (W0 x) (R0 y) := ⟨_, _, _, _, _, _, _, CI_0, RI_0, WS_0⟩
