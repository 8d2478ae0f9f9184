/-! BLOCKS THAT AGREE go on alike; orders; whether nobody more is caught -/
theorem ag_ub {B C : Blk} {j k : Nat} {v : Int32} (h : Ag B C) (hj : 1 ≤ j) : Ag (ub B j k v) (ub C j k v) := by
  obtain ⟨a1, a2, a3⟩ := h
  refine ⟨by rw [ub_n _ _ (by omega), ub_n _ _ (by omega)]; exact a1, by rw [ub_n _ _ (by omega), ub_n _ _ (by omega)]; exact a2, fun i h1 h6 l hl => ?_⟩
  simp only [ub]
  rw [a3 i h1 h6 l hl]
theorem ag_ub0 {B C : Blk} {k : Nat} {v : Int32} (h : Ag B C) : Ag (ub B 0 k v) (ub C 0 k v) := by
  obtain ⟨a1, a2, a3⟩ := h
  refine ⟨?_, ?_, fun i h1 h6 l hl => ?_⟩
  · simp only [ub]; rw [a1]
  · simp only [ub]; rw [a2]
  · rw [ub_n _ _ (by omega), ub_n _ _ (by omega)]; exact a3 i h1 h6 l hl
theorem ag_bar {G B C : Blk} {r v : Int32} (h : Ag B C) : barB G C r v = barB G B r v := by
  have h5 := nW_le G
  unfold barB
  refine anyF_cong _ _ (fun w _ hw => ?_)
  rw [h.2.2 1 (by decide) (by decide) w (by omega), h.2.2 2 (by decide) (by decide) w (by omega)]
theorem ag_go {G B C : Blk} {w : Nat} (h : Ag B C) (hw : w < 5) : Ag (goB G B w).1 (goB G C w).1 ∧ (goB G C w).2 = (goB G B w).2 := by
  have e1 := h.2.2 1 (by decide) (by decide) w hw
  have e2 := h.2.2 2 (by decide) (by decide) w hw
  have e3 := h.2.2 3 (by decide) (by decide) w hw
  have e4 := h.2.2 4 (by decide) (by decide) w hw
  have e5 := h.2.2 5 (by decide) (by decide) w hw
  unfold goB
  rw [h.2.1, e1, e2, e3, e4, e5, ag_bar h]
  split
  · exact ⟨h, rfl⟩
  · split
    · exact ⟨ag_ub (ag_ub h (by decide)) (by decide), rfl⟩
    · split
      · exact ⟨ag_ub h (by decide), rfl⟩
      · split
        · exact ⟨ag_ub h (by decide), rfl⟩
        · exact ⟨ag_ub (ag_ub (ag_ub h (by decide)) (by decide)) (by decide), rfl⟩
theorem foreS_t {B : Blk} {gone b : Int32} {i : Nat} (c1 : ((gone >>> (nI i &&& 31)) &&& 1) = 0) (c2 : b = -1 ∨ ¬ B 1 i ≤ B 1 b.toNatClampNeg) : foreS B gone b i = nI i := if_pos ⟨c1, c2⟩
theorem foreS_f {B : Blk} {gone b : Int32} {i : Nat} (c : ¬ (((gone >>> (nI i &&& 31)) &&& 1) = 0 ∧ (b = -1 ∨ ¬ B 1 i ≤ B 1 b.toNatClampNeg))) : foreS B gone b i = b := if_neg c
theorem ag_foreS {B C : Blk} {gone b : Int32} {i : Nat} (e1 : C 1 i = B 1 i) (e2 : ¬ b = -1 → C 1 b.toNatClampNeg = B 1 b.toNatClampNeg) : foreS C gone b i = foreS B gone b i := by
  by_cases c : ((gone >>> (nI i &&& 31)) &&& 1) = 0 ∧ (b = -1 ∨ ¬ B 1 i ≤ B 1 b.toNatClampNeg)
  · rw [foreS_t c.1 c.2]
    refine foreS_t c.1 ?_
    by_cases hb : b = -1
    · exact Or.inl hb
    · refine Or.inr ?_
      rw [e1, e2 hb]
      exact c.2.resolve_left hb
  · rw [foreS_f c]
    refine foreS_f (fun q => c ⟨q.1, ?_⟩)
    by_cases hb : b = -1
    · exact Or.inl hb
    · have := q.2.resolve_left hb
      rw [e1, e2 hb] at this
      exact Or.inr this
theorem foreS_in {B : Blk} {gone b : Int32} {i : Nat} (hi : i < 5) (hb : b = -1 ∨ ∃ k, k < 5 ∧ b = nI k) : foreS B gone b i = -1 ∨ ∃ k, k < 5 ∧ foreS B gone b i = nI k := by
  by_cases c : ((gone >>> (nI i &&& 31)) &&& 1) = 0 ∧ (b = -1 ∨ ¬ B 1 i ≤ B 1 b.toNatClampNeg)
  · exact Or.inr ⟨i, hi, foreS_t c.1 c.2⟩
  · rw [foreS_f c]; exact hb
theorem ag_fore {B C : Blk} {gone : Int32} (h : Ag B C) : ∀ (n i : Nat) (b : Int32), i + n ≤ 5 → (b = -1 ∨ ∃ k, k < 5 ∧ b = nI k) → foldF (foreS C gone) i n b = foldF (foreS B gone) i n b := by
  intro n
  induction n with
  | zero => intro i b _ _; simp only [foldF]
  | succ n ih =>
    intro i b hn hb
    have e1 := h.2.2 1 (by decide) (by decide) i (by omega)
    have e2 : ¬ b = -1 → C 1 b.toNatClampNeg = B 1 b.toNatClampNeg := fun z => by
      rcases hb with hb | ⟨k, hk, hb⟩
      · exact absurd hb z
      · rw [hb, cl_nI (by omega)]; exact h.2.2 1 (by decide) (by decide) k hk
    have e3 := foreS_in (B := B) (gone := gone) (i := i) (by omega) hb
    simp only [foldF]
    rw [ag_foreS e1 e2]
    exact ih (i + 1) _ (by omega) e3
theorem ag_passS {G : Blk} : ∀ (n i : Nat) (s u : Blk × Int32 × Int32), Ag s.1 u.1 → u.2 = s.2 → Ag (foldF (passS G) i n s).1 (foldF (passS G) i n u).1 ∧ (foldF (passS G) i n u).2 = (foldF (passS G) i n s).2
  | 0, _, _, _, h, e => ⟨h, e⟩
  | n + 1, i, s, u, h, e => by
    have h5 := nW_le G
    simp only [foldF]
    have ef : foreB G u.1 u.2.1 = foreB G s.1 s.2.1 := by
      rw [e]; exact ag_fore h (nW G) 0 (-1) (by omega) (Or.inl rfl)
    have key : Ag (passS G s i).1 (passS G u i).1 ∧ (passS G u i).2 = (passS G s i).2 := by
      unfold passS
      rw [ef]
      by_cases hf : foreB G s.1 s.2.1 = -1
      · simp only [hf, if_true]; exact ⟨h, e⟩
      · simp only [hf, if_false]
        rcases fore_in s.1 s.2.1 (nW G) 0 (-1) (by omega) (Or.inl rfl) with q | ⟨k, hk, q⟩
        · exact absurd q hf
        · have q : foreB G s.1 s.2.1 = nI k := q
          rw [q, cl_nI (by omega)]
          obtain ⟨g1, g2⟩ := ag_go (G := G) h hk
          exact ⟨g1, by rw [g2, e]⟩
    exact ag_passS n (i + 1) _ _ key.1 key.2
theorem ag_catch {y : Int32} : ∀ (n i : Nat) (B C : Blk), i + n ≤ 5 → Ag B C → Ag (foldF (catchS y) i n B) (foldF (catchS y) i n C)
  | 0, _, _, _, _, h => h
  | n + 1, i, B, C, hn, h => by
    simp only [foldF]
    refine ag_catch n (i + 1) _ _ (by omega) ?_
    unfold catchS
    rw [h.2.2 1 (by decide) (by decide) i (by omega), h.2.1]
    split
    · exact ag_ub0 h
    · exact h
theorem ag_pass {G B C : Blk} (h : Ag B C) : Ag (passB G B).1 (passB G C).1 ∧ (passB G C).2 = (passB G B).2 := by
  have h5 := nW_le G
  obtain ⟨a, b⟩ := ag_passS (G := G) (nW G) 0 (B, 0, -1) (C, 0, -1) h rfl
  refine ⟨?_, by show (foldF (passS G) 0 (nW G) (C, 0, -1)).2.2 = _; rw [b]; rfl⟩
  unfold passB catchB
  have e0 : (foldF (passS G) 0 (nW G) (C, 0, -1)).1 0 0 = (foldF (passS G) 0 (nW G) (B, 0, -1)).1 0 0 := a.1
  show Ag (foldF _ 0 (nW G) _) (foldF _ 0 (nW G) _)
  rw [e0, ub_s, ub_s]
  exact ag_catch (nW G) 0 _ _ (by omega) (ag_ub0 a)
/-! the wagons that lack minutes, their orders -/
def lkC (G B : Blk) (w : Nat) : Bool := decide (0 < G 3 w - B 5 w - B 4 w) && !(bget (B 0 1) w)
def lkF (G B : Blk) : Nat → Nat → List (Nat × Int32) → List (Nat × Int32)
  | _, 0, L => L
  | i, n + 1, L => if 3 ≤ L.length then L else lkF G B (i + 1) n (if lkC G B i then L ++ [(i, G 3 i - B 5 i - B 4 i)] else L)
def lkL (G B : Blk) : List (Nat × Int32) := lkF G B 0 (nW G) []
theorem lkF_in {G B : Blk} : ∀ (n i : Nat) (L : List (Nat × Int32)), i + n ≤ nW G → L.length ≤ 3 → (∀ q ∈ L, q.1 < nW G ∧ q.1 < i) → (lkF G B i n L).length ≤ 3 ∧ (∀ q ∈ lkF G B i n L, q.1 < nW G)
  | 0, _, L, _, h, h2 => ⟨h, fun q hq => (h2 q hq).1⟩
  | n + 1, i, L, hn, h, h2 => by
    simp only [lkF]
    split
    · exact ⟨h, fun q hq => (h2 q hq).1⟩
    · rename_i h3
      split
      · refine lkF_in n (i + 1) _ (by omega) (by simp; omega) (fun q hq => ?_)
        rcases List.mem_append.mp hq with k | k
        · exact ⟨(h2 q k).1, by have := (h2 q k).2; omega⟩
        · rw [List.mem_singleton.mp k]; exact ⟨by show i < nW G; omega, by show i < i + 1; omega⟩
      · exact lkF_in n (i + 1) L (by omega) h (fun q hq => ⟨(h2 q hq).1, by have := (h2 q hq).2; omega⟩)
theorem lkL_in (G B : Blk) : (lkL G B).length ≤ 3 ∧ ∀ i, (h : i < (lkL G B).length) → ((lkL G B)[i]).1 < nW G := by
  obtain ⟨a, b⟩ := lkF_in (G := G) (B := B) (nW G) 0 [] (by omega) (by simp) (fun q hq => by simp at hq)
  exact ⟨a, fun i h => b _ (List.getElem_mem h)⟩
def lW (L : List (Nat × Int32)) (i : Nat) : Nat := (L.getD i (0, 0)).1
def lK (L : List (Nat × Int32)) (i : Nat) : Int32 := (L.getD i (0, 0)).2
theorem lW_in {G B : Blk} {i : Nat} (h : i < (lkL G B).length) : lW (lkL G B) i < nW G := by
  have := (lkL_in G B).2 i h
  unfold lW
  rw [List.getD_eq_getElem?_getD, List.getElem?_eq_getElem h]
  exact this
/-- starts of the three -/
def st3 (a b c : Nat) : Nat → Nat := fun i => if i = 0 then a else if i = 1 then b else c
def ordS (L : List (Nat × Int32)) (sp : Nat) (st : Nat → Nat) (t : Nat) (B : Blk) (i : Nat) : Blk := if st i = t ∧ i ≠ sp ∧ bget (B 0 1) (lW L i) = false then ub B 4 (lW L i) (B 4 (lW L i) + lK L i) else B
def ordB (L : List (Nat × Int32)) (sp : Nat) (st : Nat → Nat) (t : Nat) (B : Blk) : Blk := foldF (ordS L sp st t) 0 L.length B
def safeF (G : Blk) (L : List (Nat × Int32)) (sp : Nat) (st : Nat → Nat) (had : Int32) : Nat → Nat → Blk → Bool
  | 0, _, _ => true
  | m + 1, t, B => if (passB G (ordB L sp st t B)).1 0 1 = had then safeF G L sp st had m (t + 1) (passB G (ordB L sp st t B)).1 else false
def wellF (G : Blk) (L : List (Nat × Int32)) (sp : Nat) (st : Nat → Nat) : Nat → Nat → Blk → Blk
  | 0, _, B => B
  | m + 1, t, B => wellF G L sp st m (t + 1) (passB G (ordB L sp st t B)).1
theorem ord_row {L : List (Nat × Int32)} {sp t : Nat} {st : Nat → Nat} : ∀ (n i : Nat) (B : Blk) (j : Nat), j ≠ 4 → foldF (ordS L sp st t) i n B j = B j
  | 0, _, _, _, _ => rfl
  | n + 1, i, B, j, hj => by
    simp only [foldF]
    rw [ord_row n (i + 1) _ j hj]
    unfold ordS
    split
    · funext k; simp [ub, hj]
    · rfl
theorem ordB_row {L : List (Nat × Int32)} {sp t j : Nat} {st : Nat → Nat} {B : Blk} (hj : j ≠ 4) : ordB L sp st t B j = B j := ord_row _ _ _ _ hj
theorem ag_ord {L : List (Nat × Int32)} {sp t : Nat} {st : Nat → Nat} (hL : ∀ i, i < L.length → lW L i < 5) : ∀ (n i : Nat) (B C : Blk), i + n ≤ L.length → Ag B C → Ag (foldF (ordS L sp st t) i n B) (foldF (ordS L sp st t) i n C)
  | 0, _, _, _, _, h => h
  | n + 1, i, B, C, hn, h => by
    simp only [foldF]
    refine ag_ord hL n (i + 1) _ _ (by omega) ?_
    unfold ordS
    rw [h.2.1, h.2.2 4 (by decide) (by decide) _ (hL i (by omega))]
    split
    · exact ag_ub h (by decide)
    · exact h
theorem ag_safe {G : Blk} {L : List (Nat × Int32)} {sp : Nat} {st : Nat → Nat} {had : Int32} (hL : ∀ i, i < L.length → lW L i < 5) : ∀ (m t : Nat) (B C : Blk), Ag B C → safeF G L sp st had m t C = safeF G L sp st had m t B
  | 0, _, _, _, _ => rfl
  | m + 1, t, B, C, h => by
    simp only [safeF]
    obtain ⟨p1, p2⟩ := ag_pass (G := G) (ag_ord (sp := sp) (st := st) (t := t) hL L.length 0 B C (by omega) h)
    have p1 : Ag (passB G (ordB L sp st t B)).1 (passB G (ordB L sp st t C)).1 := p1
    rw [p1.2.1, ag_safe hL m (t + 1) _ _ p1]
theorem Wb.ord {n t u sp : Nat} {B : Blk} {L : List (Nat × Int32)} {st : Nat → Nat} (h : Wb n B u) : Wb n (ordB L sp st t B) u := by
  obtain ⟨h1, h2, h3⟩ := h
  refine ⟨by rw [ordB_row (by decide)]; exact h1, ?_, h3.row (ordB_row (by decide)) (ordB_row (by decide))⟩
  obtain ⟨c, c1, c2⟩ := h2
  exact ⟨c, c1, by rw [ordB_row (by decide)]; exact c2⟩
/-! who is caught stays so -/
theorem or_sub : ∀ a, a < 32 → ∀ b, b < 32 → ∀ w, w < 5 → a ||| b = b → a ||| (b ||| 2 ^ w) = b ||| 2 ^ w := by decide +kernel
theorem catch_sub {n c : Nat} {y : Int32} (hn : n ≤ 5) (hc : c < 32) : ∀ (k i : Nat) (B : Blk) (d : Nat), i + k ≤ n → d < 2 ^ n → B 0 1 = nI d → c ||| d = d → ∃ e, e < 2 ^ n ∧ foldF (catchS y) i k B 0 1 = nI e ∧ c ||| e = e
  | 0, _, _, d, _, h1, h2, h3 => ⟨d, h1, h2, h3⟩
  | k + 1, i, B, d, hk, h1, h2, h3 => by
    simp only [foldF]
    by_cases hcond : B 1 i ≤ y
    · have e1 : catchS y B i 0 1 = nI (d ||| 2 ^ i) := by
        unfold catchS; rw [if_pos hcond, ub_s, h2]; exact (gone_bits d (mask_32 hn h1) i (by omega)).2.1
      exact catch_sub hn hc k (i + 1) _ (d ||| 2 ^ i) (by omega) (mask_bits n hn d h1 i (by omega)) e1 (or_sub c hc d (mask_32 hn h1) i (by omega) h3)
    · have e1 : catchS y B i = B := if_neg hcond
      rw [e1]
      exact catch_sub hn hc k (i + 1) B d (by omega) h1 h2 h3
theorem pass_sub {G B : Blk} {c t : Nat} (hW : WG G) (hb : Wb (nW G) B t) (ht : t ≤ 2000) (hc : c < 32) (d : Nat) (h1 : d < 2 ^ nW G) (h2 : B 0 1 = nI d) (h3 : c ||| d = d) : ∃ e, e < 2 ^ nW G ∧ (passB G B).1 0 1 = nI e ∧ c ||| e = e := by
  have h5 := nW_le G
  have hp := passF hW (nW G) 0 (B, 0, -1) (20 + 5 * t) (by omega) hb.2.2 (by omega)
  exact catch_sub h5 hc (nW G) 0 _ d (by omega) h1 (by rw [ub_n _ _ (by omega), hp.2]; exact h2) h3
theorem well_sub {G : Blk} {L : List (Nat × Int32)} {sp c : Nat} {st : Nat → Nat} (hW : WG G) (hc : c < 32) : ∀ (m t u : Nat) (B : Blk) (d : Nat), Wb (nW G) B u → u + m ≤ 2000 → d < 2 ^ nW G → B 0 1 = nI d → c ||| d = d → ∃ e, e < 2 ^ nW G ∧ wellF G L sp st m t B 0 1 = nI e ∧ c ||| e = e
  | 0, _, _, _, d, _, _, h1, h2, h3 => ⟨d, h1, h2, h3⟩
  | m + 1, t, u, B, d, hb, hu, h1, h2, h3 => by
    simp only [wellF]
    have hb2 : Wb (nW G) (ordB L sp st t B) u := hb.ord
    obtain ⟨e, e1, e2, e3⟩ := pass_sub hW hb2 (by omega) hc d h1 (by rw [ordB_row (by decide)]; exact h2) h3
    exact well_sub hW hc m (t + 1) (u + 1) _ e (hb2.pass hW (by omega)) (by omega) e1 e2 e3
theorem or_eq : ∀ a, a < 32 → ∀ b, b < 32 → a ||| b = b → b ||| a = a → b = a := by decide +kernel
theorem safe_well {G : Blk} {L : List (Nat × Int32)} {sp : Nat} {st : Nat → Nat} (hW : WG G) : ∀ (m t u : Nat) (B : Blk) (d : Nat), Wb (nW G) B u → u + m ≤ 2000 → d < 2 ^ nW G → B 0 1 = nI d → (safeF G L sp st (nI d) m t B = true ↔ wellF G L sp st m t B 0 1 = nI d)
  | 0, _, _, _, d, _, _, _, h2 => ⟨fun _ => h2, fun _ => rfl⟩
  | m + 1, t, u, B, d, hb, hu, h1, h2 => by
    have h5 := nW_le G
    have hd := mask_32 h5 h1
    simp only [safeF, wellF]
    have hb2 : Wb (nW G) (ordB L sp st t B) u := hb.ord
    have hb3 := hb2.pass hW (by omega)
    obtain ⟨e, e1, e2, e3⟩ := pass_sub hW hb2 (by omega) hd d h1 (by rw [ordB_row (by decide)]; exact h2) (Nat.or_self d)
    by_cases hh : (passB G (ordB L sp st t B)).1 0 1 = nI d
    · rw [if_pos hh]
      exact safe_well hW m (t + 1) (u + 1) _ d hb3 (by omega) h1 hh
    · rw [if_neg hh]
      refine ⟨fun q => absurd q (by decide), fun q => absurd ?_ hh⟩
      obtain ⟨f, f1, f2, f3⟩ := well_sub (L := L) (sp := sp) (st := st) hW (mask_32 h5 e1) m (t + 1) (u + 1) _ e hb3 (by omega) e1 e2 (Nat.or_self e)
      rw [f2, nI_eq (by have := mask_32 h5 f1; omega) (by omega)] at q
      rw [q] at f3
      rw [e2, or_eq d hd e (mask_32 h5 e1) e3 f3]
