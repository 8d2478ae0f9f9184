/-! BLOCKS OF CELLS: a world address by address -/
theorem RR_at {T : Th} {M : Mm} {H : Heap} : RR T M H ↔ ∀ a, AA T a → va_at T.2.1 vwCl (a, cellOf T M a) H := by
  refine ⟨fun h a ha => ?_, fun h k q hk => ?_⟩
  · obtain ⟨k, hk⟩ := va_pl_get (X := []) (f := cellOf T M) (dom_in ha)
    exact h k _ hk
  · unfold wl va_pl dom at hk
    rw [List.map_map, List.getElem?_map] at hk
    by_cases hl : k < T.2.2.2.2.1
    · rw [List.getElem?_range hl] at hk
      cases hk
      exact h _ ⟨by show T.2.2.2.1 ≤ T.2.2.2.1 + k; omega, by show T.2.2.2.1 + k < T.2.2.2.1 + T.2.2.2.2.1; omega⟩
    · rw [List.getElem?_eq_none (by simpa using hl)] at hk
      cases hk
/-- the same world on another stretch of addresses -/
def Tb (T : Th) (n0 nn : Nat) : Th := (T.1, T.2.1, T.2.2.1, n0, nn, T.2.2.2.2.2)
theorem Tb_cell {T : Th} {n0 nn : Nat} {M : Mm} {a : Nat} : cellOf (Tb T n0 nn) M a = cellOf T M a := rfl
theorem Tb_AA {T : Th} {n0 nn a : Nat} : AA (Tb T n0 nn) a ↔ n0 ≤ a ∧ a < n0 + nn := Iff.rfl
theorem RR_app {T : Th} {M : Mm} {H : Heap} {n0 a b : Nat} (h1 : RR (Tb T n0 a) M H) (h2 : RR (Tb T (n0 + a) b) M H) : RR (Tb T n0 (a + b)) M H := by
  rw [RR_at] at *
  intro q hq
  have hq := Tb_AA.mp hq
  by_cases h : q < n0 + a
  · exact h1 q (Tb_AA.mpr ⟨hq.1, h⟩)
  · exact h2 q (Tb_AA.mpr ⟨by omega, by omega⟩)
theorem RR_sub {T : Th} {M : Mm} {H : Heap} {n0 nn m0 mm : Nat} (h : RR (Tb T n0 nn) M H) (h1 : n0 ≤ m0) (h2 : m0 + mm ≤ n0 + nn) : RR (Tb T m0 mm) M H := by
  rw [RR_at] at *
  intro q hq
  have hq := Tb_AA.mp hq
  exact h q (Tb_AA.mpr ⟨by omega, by omega⟩)
/-- cells speak of memory at their address only -/
theorem cell_cong {T : Th} {M M' : Mm} {a : Nat} (h1 : M'.1 a = M.1 a) (h2 : M'.2.1 a = M.2.1 a) (h3 : M'.2.2 a = M.2.2 a) : cellOf T M' a = cellOf T M a := by
  have e : fv M' a = fv M a := by funext c k; unfold fv; rw [h1, h2, h3]
  unfold cellOf
  rw [e, h1, h2, h3]
theorem RR_cong {T : Th} {M M' : Mm} {H : Heap} (h : RR T M H) (he : ∀ a, AA T a → M'.1 a = M.1 a ∧ M'.2.1 a = M.2.1 a ∧ M'.2.2 a = M.2.2 a) : RR T M' H := by
  rw [RR_at] at *
  intro a ha
  obtain ⟨e1, e2, e3⟩ := he a ha
  rw [cell_cong e1 e2 e3]
  exact h a ha
theorem RR_kept {T : Th} {M : Mm} {H H' : Heap} (h : RR T M H) (hk : ∀ a, AA T a → H'[a]? = H[a]?) : RR T M H' := by
  rw [RR_at] at *
  exact fun a ha => (h a ha).kept (hk a ha)
