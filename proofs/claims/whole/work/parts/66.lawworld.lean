/-! THE LAW: shapes of all cells, class numbers, the nest's words -/
def shC : List (Nat × Nat) := [(0, 6), (0, 4), (1, 200), (0, 3), (1, 3), (1, 3), (1, 3), (0, 0), (1, 13), (2, 13), (0, 2), (1, 5), (1, 5), (1, 5), (1, 5), (1, 5), (0, 5), (0, 2), (1, 5), (1, 5), (1, 5), (1, 5), (1, 5), (5, 10), (0, 2), (1, 5), (1, 5), (1, 5), (1, 5), (1, 5), (0, 2), (1, 5), (1, 5), (1, 5), (1, 5), (1, 5), (0, 2), (1, 5), (1, 5), (1, 5), (1, 5), (1, 5), (0, 2), (1, 5), (1, 5), (1, 5), (1, 5), (1, 5), (0, 2), (1, 5), (1, 5), (1, 5), (1, 5), (1, 5), (0, 2), (1, 5), (1, 5), (1, 5), (1, 5), (1, 5), (0, 2), (1, 5), (1, 5), (1, 5), (1, 5), (1, 5), (0, 2), (1, 5), (1, 5), (1, 5), (1, 5), (1, 5), (0, 2), (1, 5), (1, 5), (1, 5), (1, 5), (1, 5), (0, 2), (1, 5), (1, 5), (1, 5), (1, 5), (1, 5), (0, 5), (0, 2), (1, 5), (1, 5), (1, 5), (1, 5), (1, 5), (5, 10), (0, 2), (1, 5), (1, 5), (1, 5), (1, 5), (1, 5), (0, 2), (1, 5), (1, 5), (1, 5), (1, 5), (1, 5), (0, 2), (1, 5), (1, 5), (1, 5), (1, 5), (1, 5), (0, 2), (1, 5), (1, 5), (1, 5), (1, 5), (1, 5), (0, 2), (1, 5), (1, 5), (1, 5), (1, 5), (1, 5), (0, 2), (1, 5), (1, 5), (1, 5), (1, 5), (1, 5), (0, 2), (1, 5), (1, 5), (1, 5), (1, 5), (1, 5), (0, 2), (1, 5), (1, 5), (1, 5), (1, 5), (1, 5), (0, 2), (1, 5), (1, 5), (1, 5), (1, 5), (1, 5), (0, 2), (1, 5), (1, 5), (1, 5), (1, 5), (1, 5), (0, 5), (0, 2), (1, 5), (1, 5), (1, 5), (1, 5), (1, 5), (5, 10), (0, 2), (1, 5), (1, 5), (1, 5), (1, 5), (1, 5), (0, 2), (1, 5), (1, 5), (1, 5), (1, 5), (1, 5), (0, 2), (1, 5), (1, 5), (1, 5), (1, 5), (1, 5), (0, 2), (1, 5), (1, 5), (1, 5), (1, 5), (1, 5), (0, 2), (1, 5), (1, 5), (1, 5), (1, 5), (1, 5), (0, 2), (1, 5), (1, 5), (1, 5), (1, 5), (1, 5), (0, 2), (1, 5), (1, 5), (1, 5), (1, 5), (1, 5), (0, 2), (1, 5), (1, 5), (1, 5), (1, 5), (1, 5), (0, 2), (1, 5), (1, 5), (1, 5), (1, 5), (1, 5), (0, 2), (1, 5), (1, 5), (1, 5), (1, 5), (1, 5), (0, 1), (1, 12), (1, 5), (1, 5), (1, 4), (1, 4), (0, 2), (1, 5), (1, 5), (1, 5), (1, 5), (1, 5), (0, 1), (1, 12), (1, 5), (1, 5), (1, 4), (1, 4), (0, 2), (1, 5), (1, 5), (1, 5), (1, 5), (1, 5)]
def shM : List (Nat × Nat) := [(0, 7), (3, 200), (1, 2), (1, 2), (1, 2), (1, 2), (1, 2), (1, 2), (1, 2), (1, 24), (1, 10), (1, 10), (1, 10), (1, 10), (1, 8), (1, 8), (1, 5), (1, 1026), (1, 31), (4, 2), (1, 3), (1, 3), (1, 3), (1, 3), (2, 112), (2, 112)]
def sh (x q : Nat) : Nat × Nat := if q < x + 244 then shC.getD (q - x) (0, 0) else shM.getD (q - (x + 244)) (0, 0)
abbrev TT (l : Launch) (D : va_G) (cA : Nat → ClassId) (x : Nat) : Th := (l, D, cA, x, 244, sh x)
section
variable {l : Launch} {D : va_G} {cA : Nat → ClassId} {x : Nat}
theorem TT_o {c : Nat} {z : Nat × Nat} (hc : c < 244) (hz : shC.getD c (0, 0) = z) : Ob (TT l D cA x) (x + c) z := ⟨⟨Nat.le_add_right _ _, by show x + c < x + 244; omega⟩, by
  show sh x (x + c) = z
  unfold sh
  rw [if_pos (by omega), Nat.add_sub_cancel_left]
  exact hz⟩
def X2ok (c : Nat) : Bool := (shC.drop c).take 6 == [(0, 2), (1, 5), (1, 5), (1, 5), (1, 5), (1, 5)]
theorem X2ok.g {c : Nat} (h : X2ok c = true) {j : Nat} (hj : j < 6) : shC.getD (c + j) (0, 0) = [(0, 2), (1, 5), (1, 5), (1, 5), (1, 5), (1, 5)].getD j (0, 0) := by
  have h1 : (shC.drop c).take 6 = [(0, 2), (1, 5), (1, 5), (1, 5), (1, 5), (1, 5)] := eq_of_beq h
  rw [← h1, List.getD_eq_getElem?_getD, List.getD_eq_getElem?_getD, List.getElem?_take, if_pos hj, List.getElem?_drop]
theorem TT_2 {c : Nat} (hc : c < 239) (h : X2ok c = true) : isX2 (TT l D cA x) (x + c) := ⟨TT_o (by omega) (X2ok.g h (j := 0) (by decide)), TT_o (c := c + 1) (by omega) (X2ok.g h (by decide)), TT_o (c := c + 2) (by omega) (X2ok.g h (by decide)), TT_o (c := c + 3) (by omega) (X2ok.g h (by decide)), TT_o (c := c + 4) (by omega) (X2ok.g h (by decide)), TT_o (c := c + 5) (by omega) (X2ok.g h (by decide))⟩
theorem ok_s : ∀ k, k < 10 → X2ok (16 + 8 + 6 * k) = true ∧ X2ok (84 + 8 + 6 * k) = true ∧ X2ok (152 + 8 + 6 * k) = true := by decide +kernel
theorem ok_2 : X2ok 10 = true ∧ X2ok 17 = true ∧ X2ok 85 = true ∧ X2ok 153 = true ∧ X2ok 226 = true ∧ X2ok 238 = true := by decide +kernel
theorem TT_5 {c : Nat} (hc : c < 200) (h : shC.getD c (0, 0) = (0, 5)) (h2 : X2ok (c + 1) = true) (h7 : shC.getD (c + 7) (0, 0) = (5, 10)) : isX5 (TT l D cA x) (x + c) := ⟨TT_o (by omega) h, TT_2 (c := c + 1) (by omega) h2, TT_o (c := c + 7) (by omega) h7⟩
theorem TT_LayC : LayC (TT l D cA x) x := by
  have g : ∀ s k, s < 160 → k < 10 → X2ok (s + 8 + 6 * k) = true → isX2 (TT l D cA x) (x + s + 8 + 6 * k) := fun s k hs hk h => by
    have h1 := TT_2 (l := l) (D := D) (cA := cA) (x := x) (c := s + 8 + 6 * k) (by omega) h
    rw [show x + (s + 8 + 6 * k) = x + s + 8 + 6 * k by omega] at h1
    exact h1
  refine ⟨⟨TT_o (c := 0) (by decide) rfl, ⟨TT_o (c := 1) (by decide) rfl, TT_o (c := 2) (by decide) rfl⟩, ⟨TT_o (c := 3) (by decide) rfl, TT_o (c := 4) (by decide) rfl, TT_o (c := 5) (by decide) rfl, TT_o (c := 6) (by decide) rfl⟩, ⟨TT_o (c := 7) (by decide) rfl, TT_o (c := 8) (by decide) rfl, TT_o (c := 9) (by decide) rfl⟩, TT_2 (c := 10) (by decide) ok_2.1, TT_5 (c := 16) (by decide) rfl ok_2.2.1 rfl, TT_5 (c := 84) (by decide) rfl ok_2.2.2.1 rfl, TT_5 (c := 152) (by decide) rfl ok_2.2.2.2.1 rfl⟩, fun k hk => g 16 k (by decide) hk (ok_s k hk).1, fun k hk => g 84 k (by decide) hk (ok_s k hk).2.1, fun k hk => g 152 k (by decide) hk (ok_s k hk).2.2, ?_, ?_⟩
  · exact ⟨TT_o (c := 220) (by decide) rfl, TT_o (c := 221) (by decide) rfl, TT_o (c := 222) (by decide) rfl, TT_o (c := 223) (by decide) rfl, TT_o (c := 224) (by decide) rfl, TT_o (c := 225) (by decide) rfl, TT_2 (c := 226) (by decide) ok_2.2.2.2.2.1⟩
  · exact ⟨TT_o (c := 232) (by decide) rfl, TT_o (c := 233) (by decide) rfl, TT_o (c := 234) (by decide) rfl, TT_o (c := 235) (by decide) rfl, TT_o (c := 236) (by decide) rfl, TT_o (c := 237) (by decide) rfl, TT_2 (c := 238) (by decide) ok_2.2.2.2.2.2⟩
theorem TM_o {c : Nat} {z : Nat × Nat} (hc : c < 26) (hz : shM.getD c (0, 0) = z) : Ob (Tb (TT l D cA x) (x + 244) 26) (x + 244 + c) z := ⟨⟨Nat.le_add_right _ _, by show x + 244 + c < x + 244 + 26; omega⟩, by
  show sh x (x + 244 + c) = z
  unfold sh
  rw [if_neg (by omega), Nat.add_sub_cancel_left]
  exact hz⟩
theorem TM_7 : isX7 (Tb (TT l D cA x) (x + 244) 26) (x + 244) := ⟨TM_o (c := 0) (by decide) rfl, TM_o (c := 1) (by decide) rfl, TM_o (c := 2) (by decide) rfl, TM_o (c := 3) (by decide) rfl, TM_o (c := 4) (by decide) rfl, TM_o (c := 5) (by decide) rfl, TM_o (c := 6) (by decide) rfl, TM_o (c := 7) (by decide) rfl, TM_o (c := 8) (by decide) rfl, TM_o (c := 9) (by decide) rfl, TM_o (c := 10) (by decide) rfl, TM_o (c := 11) (by decide) rfl, TM_o (c := 12) (by decide) rfl, TM_o (c := 13) (by decide) rfl, TM_o (c := 14) (by decide) rfl, TM_o (c := 15) (by decide) rfl, TM_o (c := 16) (by decide) rfl, TM_o (c := 17) (by decide) rfl, TM_o (c := 18) (by decide) rfl, TM_o (c := 19) (by decide) rfl, TM_o (c := 20) (by decide) rfl, TM_o (c := 21) (by decide) rfl, TM_o (c := 22) (by decide) rfl, TM_o (c := 23) (by decide) rfl, TM_o (c := 24) (by decide) rfl, TM_o (c := 25) (by decide) rfl⟩
end
theorem law_K {s : State} {A : Array Value} (hts : ∀ w ∈ lw_tbl, w.before A s = true) : ∃ (D : va_G) (cA : Nat → ClassId), va_K D vwCl [(cA 1, .int), (cA 2, .long), (cA 3, .byte), (cA 4, .boolean), (cA 5, .object RX2)] s := by
  have hta : ∀ w ∈ wsA, w.before A s = true := fun w hw => hts w (wsA_tbl hw)
  obtain ⟨c0, i0, k0⟩ := u_known (C := RX0) (T := TX0) (N := 3) (n := 3) hta iaX0 (hta _ (wsA_in (tb1 (List.mem_of_getElem? (i := 76) rfl)) rfl))
  obtain ⟨c1, i1, k1⟩ := u_known (C := RX1) (T := TX1) (N := 14) (n := 14) hta iaX1 (hta _ (wsA_in (tb1 (List.mem_of_getElem? (i := 164) rfl)) rfl))
  obtain ⟨c2, i2, k2⟩ := u_known (C := RX2) (T := TX2) (N := 7) (n := 7) hta iaX2 (hta _ (wsA_in (tb1 (List.mem_of_getElem? (i := 93) rfl)) rfl))
  obtain ⟨c3, i3, k3⟩ := u_known (C := RX3) (T := TX3) (N := 5) (n := 5) hta iaX3 (hta _ (wsA_in (tb1 (List.mem_of_getElem? (i := 51) rfl)) rfl))
  obtain ⟨c4, i4, k4⟩ := u_known (C := RX4) (T := TX4) (N := 7) (n := 7) hta iaX4 (hta _ (wsA_in (tb1 (List.mem_of_getElem? (i := 21) rfl)) rfl))
  obtain ⟨c5, i5, k5⟩ := u_known (C := RX5) (T := TX5) (N := 4) (n := 4) hta iaX5 (hta _ (wsA_in (tb1 (List.mem_of_getElem? (i := 140) rfl)) rfl))
  obtain ⟨c6, i6, k6⟩ := u_known (C := RX6) (T := TX6) (N := 10) (n := 10) hta iaX6 (hta _ (wsA_in (tb1 (List.mem_of_getElem? (i := 13) rfl)) rfl))
  obtain ⟨c7, i7, k7⟩ := u_known (C := RX7) (T := TX7) (N := 39) (n := 39) hta iaX7 (hta _ (wsA_in (tb3 (List.mem_of_getElem? (i := 191) rfl)) rfl))
  obtain ⟨a1, u1, v1, p1, q1, r1⟩ := Cond.arrayClass_spec (hta _ (wsA_in (tb1 (List.mem_of_getElem? (i := 49) rfl)) rfl))
  obtain ⟨a2, u2, v2, p2, q2, r2⟩ := Cond.arrayClass_spec (hta _ (wsA_in (tb1 (List.mem_of_getElem? (i := 91) rfl)) rfl))
  obtain ⟨a3, u3, v3, p3, q3, r3⟩ := Cond.arrayClass_spec (hta _ (wsA_in (tb4 (List.mem_of_getElem? (i := 74) rfl)) rfl))
  obtain ⟨a4, u4, v4, p4, q4, r4⟩ := Cond.arrayClass_spec (hta _ (wsA_in (tb4 (List.mem_of_getElem? (i := 75) rfl)) rfl))
  obtain ⟨v5, a5, u5, z5, -, q5, r5, p5⟩ := Cond.arrayOver_spec (hts (.arrayOver (.object RX2)) (tb1 (List.mem_of_getElem? (i := 147) rfl)))
  refine ⟨(fun k => match k with | 0 => c0 | 1 => c1 | 2 => c2 | 3 => c3 | 4 => c4 | 5 => c5 | 6 => c6 | _ => c7, fun k => match k with | 0 => i0 | 1 => i1 | 2 => i2 | 3 => i3 | 4 => i4 | 5 => i5 | 6 => i6 | _ => i7), (fun k => match k with | 1 => a1 | 2 => a2 | 3 => a3 | 4 => a4 | _ => a5), ?_, ?_⟩
  · intro k q hq
    match k, hq with
    | 0, hq => cases hq; exact k0
    | 1, hq => cases hq; exact k1
    | 2, hq => cases hq; exact k2
    | 3, hq => cases hq; exact k3
    | 4, hq => cases hq; exact k4
    | 5, hq => cases hq; exact k5
    | 6, hq => cases hq; exact k6
    | 7, hq => cases hq; exact k7
    | k + 8, hq => simp [vwCl] at hq
  · intro k q hq
    match k, hq with
    | 0, hq => cases hq; exact ⟨fun n z => ⟨(fun k h => by cases h), u1, q1, v1, r1⟩, p1⟩
    | 1, hq => cases hq; exact ⟨fun n z => ⟨(fun k h => by cases h), u2, q2, v2, r2⟩, p2⟩
    | 2, hq => cases hq; exact ⟨fun n z => ⟨(fun k h => by cases h), u3, q3, v3, r3⟩, p3⟩
    | 3, hq => cases hq; exact ⟨fun n z => ⟨(fun k h => by cases h), u4, q4, v4, r4⟩, p4⟩
    | 4, hq => cases hq; exact ⟨fun n z => ⟨(fun k h => by cases h), u5, q5, v5, r5⟩, ⟨u5, v5, q5, r5, z5, p5⟩⟩
    | k + 5, hq => simp at hq
theorem law_N {s : State} {A : Array Value} (hts : ∀ w ∈ lw_tbl, w.before A s = true) : NwA s := by
  refine ⟨fun q hq => ?_, va_AO.of (hts (.arrayOver (.object RX2)) (tb1 (List.mem_of_getElem? (i := 147) rfl)))⟩
  rcases List.mem_cons.mp hq with rfl | hq
  · exact va_Nw.of rfl (hts _ (tb1 (List.mem_of_getElem? (i := 22) rfl)))
  rcases List.mem_cons.mp hq with rfl | hq
  · exact va_Nw.of rfl (hts _ (tb1 (List.mem_of_getElem? (i := 52) rfl)))
  rcases List.mem_cons.mp hq with rfl | hq
  · exact va_Nw.of rfl (hts _ (tb1 (List.mem_of_getElem? (i := 77) rfl)))
  rcases List.mem_cons.mp hq with rfl | hq
  · exact va_Nw.of rfl (hts _ (tb1 (List.mem_of_getElem? (i := 94) rfl)))
  rcases List.mem_cons.mp hq with rfl | hq
  · exact va_Nw.of rfl (hts _ (tb1 (List.mem_of_getElem? (i := 146) rfl)))
  rcases List.mem_cons.mp hq with rfl | hq
  · exact va_Nw.of rfl (hts _ (tb1 (List.mem_of_getElem? (i := 170) rfl)))
  · cases hq
