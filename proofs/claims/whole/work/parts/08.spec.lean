/-! BLOCKS: rows of ints one behind another; a memory with a block written -/
abbrev Blk : Type := Nat → Nat → Int32
def ub (B : Blk) (j k : Nat) (v : Int32) : Blk := fun i l => if i = j ∧ l = k then v else B i l
def wB (M : Mm) (m n : Nat) (B : Blk) : Mm := (fun a k => if m ≤ a ∧ a < m + n then B (a - m) k else M.1 a k, M.2.1, M.2.2)
def bk (M : Mm) (m : Nat) : Blk := fun j k => M.1 (m + j) k
theorem wB_out {M : Mm} {m n a : Nat} {B : Blk} (h : a < m ∨ m + n ≤ a) : (wB M m n B).1 a = M.1 a := by
  funext k; simp only [wB]; rw [if_neg (by omega)]
theorem wB_in {M : Mm} {m n : Nat} {B : Blk} (j : Nat) (h : j < n) : (wB M m n B).1 (m + j) = B j := by
  funext k; simp only [wB]; rw [if_pos (by omega), Nat.add_sub_cancel_left]
theorem wB_in0 {M : Mm} {m n : Nat} {B : Blk} (h : 0 < n) : (wB M m n B).1 m = B 0 := wB_in (m := m) 0 h
theorem wB_2 {M : Mm} {m n : Nat} {B : Blk} : (wB M m n B).2 = M.2 := rfl
theorem wB_self {M : Mm} {m n : Nat} : wB M m n (bk M m) = M := by
  refine Prod.ext ?_ rfl
  funext a k; simp only [wB, bk]
  split
  · rename_i h; rw [Nat.add_sub_cancel' h.1]
  · rfl
theorem wB_wB {M : Mm} {m n : Nat} {B C : Blk} : wB (wB M m n B) m n C = wB M m n C := by
  refine Prod.ext ?_ rfl
  funext a k; simp only [wB]; split <;> rfl
theorem wB_cong {M : Mm} {m n : Nat} {B C : Blk} (h : ∀ j, j < n → B j = C j) : wB M m n B = wB M m n C := by
  refine Prod.ext ?_ rfl
  funext a k; simp only [wB]
  split
  · rename_i q; rw [h (a - m) (by omega)]
  · rfl
theorem wB_sI {M : Mm} {m n : Nat} {B : Blk} (j k : Nat) (v : Int32) (h : j < n) : sI (wB M m n B) (m + j) k v = wB M m n (ub B j k v) := by
  refine Prod.ext ?_ rfl
  funext a l; simp only [wB, sI, ub]
  by_cases h1 : m ≤ a ∧ a < m + n
  · rw [if_pos h1, if_pos h1]
    by_cases h2 : a = m + j ∧ l = k
    · rw [if_pos h2, if_pos (by omega)]
    · rw [if_neg h2, if_neg (by omega)]
  · rw [if_neg h1, if_neg h1, if_neg (by omega)]
theorem wB_sI0 {M : Mm} {m n : Nat} {B : Blk} (k : Nat) (v : Int32) (h : 0 < n) : sI (wB M m n B) m k v = wB M m n (ub B 0 k v) := wB_sI (m := m) 0 k v h
theorem ub_s (B : Blk) (j k : Nat) (v : Int32) : ub B j k v j k = v := by simp [ub]
theorem ub_n (B : Blk) {i j l k : Nat} (v : Int32) (h : ¬ (i = j ∧ l = k)) : ub B j k v i l = B i l := by simp [ub, h]
/-! INTS as places -/
theorem nI_lit (n : Nat) : (OfNat.ofNat n : Int32) = nI n := rfl
theorem vp_nI {i n : Nat} (h : i < n) (hn : n ≤ 2000) : vp_in (nI i) n := vp_in_nI h (by omega)
theorem cl_nI {i : Nat} (h : i ≤ 2000) : (nI i).toNatClampNeg = i := nI_clamp (by omega)
def b2i (b : Bool) : Int32 := if b then 1 else 0
/-- how often a loop 'i < c && i < k' goes -/
def lim (c : Int32) (k : Nat) : Nat := min c.toNatClampNeg k
theorem lim_le (c : Int32) (k : Nat) : lim c k ≤ k := Nat.min_le_right _ _
theorem lim_in {c : Int32} {k i : Nat} (hk : k ≤ 2000) (h : i < lim c k) : ¬ c ≤ nI i ∧ ¬ nI k ≤ nI i := by
  unfold lim at h
  have h1 : i < c.toNatClampNeg := by omega
  have h2 : i < k := by omega
  refine ⟨fun q => ?_, fun q => ?_⟩
  · have h3 := Int32.le_iff_toInt_le.mp q
    rw [nI_toInt (by omega)] at h3
    have h4 : c.toNatClampNeg = c.toInt.toNat := rfl
    omega
  · rw [nI_leI (by omega) (by omega)] at q; omega
theorem lim_out {c : Int32} {k i : Nat} (hk : k ≤ 2000) (hi : i ≤ k) (h : lim c k ≤ i) : c ≤ nI i ∨ (¬ c ≤ nI i ∧ nI k ≤ nI i) := by
  unfold lim at h
  by_cases h1 : c ≤ nI i
  · exact Or.inl h1
  · refine Or.inr ⟨h1, ?_⟩
    rw [nI_leI (by omega) (by omega)]
    have h3 : ¬ c.toInt ≤ (nI i).toInt := fun q => h1 (Int32.le_iff_toInt_le.mpr q)
    rw [nI_toInt (by omega)] at h3
    have h4 : c.toNatClampNeg = c.toInt.toNat := rfl
    omega
theorem lim_nI {n k : Nat} (h : n ≤ k) (hk : k ≤ 2000) : lim (nI n) k = n := by
  unfold lim; rw [cl_nI (by omega)]; omega
/-! LOOPS from the front -/
def foldF {α : Type} (f : α → Nat → α) : Nat → Nat → α → α
  | _, 0, a => a
  | i, n + 1, a => foldF f (i + 1) n (f a i)
def anyF (p : Nat → Bool) : Nat → Nat → Bool
  | _, 0 => false
  | i, n + 1 => p i || anyF p (i + 1) n
theorem anyF_iff (p : Nat → Bool) : ∀ (n i : Nat), anyF p i n = true ↔ ∃ w, i ≤ w ∧ w < i + n ∧ p w = true
  | 0, i => by simp only [anyF]; constructor
               · intro h; cases h
               · rintro ⟨w, h1, h2, -⟩; omega
  | n + 1, i => by
    simp only [anyF, Bool.or_eq_true, anyF_iff p n (i + 1)]
    constructor
    · rintro (h | ⟨w, h1, h2, h3⟩)
      · exact ⟨i, by omega, by omega, h⟩
      · exact ⟨w, by omega, by omega, h3⟩
    · rintro ⟨w, h1, h2, h3⟩
      by_cases h : w = i
      · subst h; exact Or.inl h3
      · exact Or.inr ⟨w, by omega, by omega, h3⟩
theorem foldF_cong {α : Type} {f g : α → Nat → α} : ∀ (n i : Nat) (a : α), (∀ a w, i ≤ w → w < i + n → f a w = g a w) → foldF f i n a = foldF g i n a
  | 0, _, _, _ => rfl
  | n + 1, i, a, h => by
    simp only [foldF]
    rw [h a i (by omega) (by omega)]
    exact foldF_cong n (i + 1) _ (fun a w h1 h2 => h a w (by omega) (by omega))
theorem anyF_cong {p q : Nat → Bool} : ∀ (n i : Nat), (∀ w, i ≤ w → w < i + n → p w = q w) → anyF p i n = anyF q i n
  | 0, _, _ => rfl
  | n + 1, i, h => by
    simp only [anyF]
    rw [h i (by omega) (by omega), anyF_cong n (i + 1) (fun w h1 h2 => h w (by omega) (by omega))]
/-! BITS of small sets -/
def bset (b : Int32) (w : Nat) : Int32 := b ||| (1 <<< (nI w &&& 31))
def bget (b : Int32) (w : Nat) : Bool := decide (((b >>> (nI w &&& 31)) &&& 1) = 1)
/-! THE GROUND: rows 0 scalars (places, each, lead, sunTold, bridge, points, wagons, pairs), 1 costs, 2 paces, 3 works, 4 and 5 pairs -/
def GrC (M : Mm) (g : Nat) (G : Blk) : Prop := ∀ j, j < 6 → M.1 (g + j) = G j
theorem GrC.out {M : Mm} {g m : Nat} {G B : Blk} (h : GrC M g G) (hd : g + 6 ≤ m ∨ m + 6 ≤ g) : GrC (wB M m 6 B) g G := fun j hj => by rw [wB_out (by omega)]; exact h j hj
def nW (G : Blk) : Nat := lim (G 0 6) 5
def plc (G : Blk) (y : Int32) : Int32 := if 1 ≤ G 0 0 then y - y / G 0 0 * G 0 0 else 0
def hasWg (G : Blk) (w : Int32) : Bool := decide (0 ≤ w ∧ w < G 0 6 ∧ w < 5)
def hasPl (G : Blk) (p : Int32) : Bool := decide (0 ≤ p ∧ p < G 0 0 ∧ p < 12)
def mins (G : Blk) (w y : Int32) : Int32 := (if hasPl G (plc G y) then G 1 (plc G y).toNatClampNeg else 1) + (if hasWg G w then G 2 w.toNatClampNeg else 0)
def sunW (G : Blk) (t ld : Int32) : Int32 := if 1 ≤ G 0 1 then t / G 0 1 - ld else -ld
def takenB (G B : Blk) (r y : Int32) : Bool := anyF (fun w => decide (B 1 w = y ∧ B 2 w = r)) 0 (nW G)
def barB (G B : Blk) (r y : Int32) : Bool := anyF (fun w => decide (B 1 w = y ∧ (plc G y = G 0 4 ∨ B 2 w = r))) 0 (nW G)
/-- the foremost that has not gone; -1 if none -/
def foreS (B : Blk) (gone : Int32) (best : Int32) (w : Nat) : Int32 := if ((gone >>> (nI w &&& 31)) &&& 1) = 0 ∧ (best = -1 ∨ ¬ B 1 w ≤ B 1 best.toNatClampNeg) then nI w else best
def foreB (G B : Blk) (gone : Int32) : Int32 := foldF (foreS B gone) 0 (nW G) (-1)
/-- what one wagon does in a minute: the block, 1 or (it waits) 0 -/
def decL (x : Int32) : Int32 := if 0 < x - 1 then x - 1 else 0
def goB (G B : Blk) (w : Nat) : Blk × Int32 :=
  if bget (B 0 1) w then (B, 1)
  else if 0 < B 4 w then (ub (ub B 4 w (B 4 w - 1)) 5 w (B 5 w + 1), 1)
  else if 0 < decL (B 3 w) then (ub B 3 w (decL (B 3 w)), 1)
  else if barB G B (B 2 w) (B 1 w + 1) then (ub B 3 w (decL (B 3 w)), 0)
  else (ub (ub (ub B 3 w (decL (B 3 w))) 1 w (B 1 w + 1)) 3 w (mins G (nI w) (B 1 w + 1)), 1)
/-- block, gone, waiting -/
def passS (G : Blk) (s : Blk × Int32 × Int32) (_ : Nat) : Blk × Int32 × Int32 :=
  let f := foreB G s.1 s.2.1
  if f = -1 then s
  else ((goB G s.1 f.toNatClampNeg).1, s.2.1 ||| (1 <<< (f &&& 31)), if (goB G s.1 f.toNatClampNeg).2 = 0 ∧ s.2.2 = -1 then f else s.2.2)
def catchS (y : Int32) (B : Blk) (w : Nat) : Blk := if B 1 w ≤ y then ub B 0 1 (B 0 1 ||| (1 <<< (nI w &&& 31))) else B
def catchB (G B : Blk) : Blk := foldF (catchS (sunW G (B 0 0) (G 0 2))) 0 (nW G) B
def passB (G B : Blk) : Blk × Int32 :=
  let s := foldF (passS G) 0 (nW G) (B, 0, -1)
  (catchB G (ub s.1 0 0 (s.1 0 0 + 1)), s.2.2)
def workB (G B : Blk) : Int32 := foldF (fun a w => if B 5 w < G 3 w then a else a ||| (1 <<< (nI w &&& 31))) 0 (nW G) 0
def atB (G B : Blk) (p : Int32) : Int32 := foldF (fun a w => if plc G (B 1 w) = p then a ||| (1 <<< (nI w &&& 31)) else a) 0 (nW G) 0
def lenS (B : Blk) (r : Int32) (s : Int32 × Int32) (w : Nat) : Int32 × Int32 :=
  if B 2 w = r then (if s.1 = -1 then B 1 w else if B 1 w < s.1 then B 1 w else s.1, if s.2 < B 1 w then B 1 w else s.2) else s
def lenF (s : Int32 × Int32) : Int32 := if s.1 = -1 then 0 else s.2 - s.1 + 1
def lenB (G B : Blk) (r : Int32) : Int32 := lenF (foldF (lenS B r) 0 (nW G) (-1, -1))
theorem GrC.own {M : Mm} {m : Nat} {B : Blk} : GrC (wB M m 6 B) m B := fun j hj => wB_in j hj
theorem GrC.rf (M : Mm) (m : Nat) : GrC M m (bk M m) := fun _ _ => rfl
theorem GrC.z {M : Mm} {m : Nat} {B : Blk} (h : GrC M m B) : M.1 m = B 0 := h 0 (by decide)
theorem GrC.eq {M : Mm} {m : Nat} {B : Blk} (h : GrC M m B) : wB M m 6 B = M := (wB_cong (fun j hj => (h j hj).symm)).trans wB_self
theorem limK_in {c K : Int32} {k i : Nat} (hK : K = nI k) (hk : k ≤ 2000) (h : i < lim c k) : ¬ c ≤ nI i ∧ ¬ K ≤ nI i ∧ (nI i).toNatClampNeg = i ∧ vp_in (nI i) k ∧ nI i + 1 = nI (i + 1) := by
  have h1 := lim_in hk h
  have h2 := lim_le c k
  rw [hK]
  exact ⟨h1.1, h1.2, cl_nI (by omega), vp_nI (by omega) hk, nI_1 i⟩
theorem limK_out {c K : Int32} {k i : Nat} (hK : K = nI k) (hk : k ≤ 2000) (hi : i ≤ k) (h : lim c k ≤ i) : c ≤ nI i ∨ (¬ c ≤ nI i ∧ K ≤ nI i) := by
  rw [hK]; exact lim_out hk hi h
theorem nW_le (G : Blk) : nW G ≤ 5 := lim_le _ _
theorem nW_in {G : Blk} {i : Nat} (h : i < nW G) : ¬ G 0 6 ≤ nI i ∧ ¬ 5 ≤ nI i ∧ (nI i).toNatClampNeg = i ∧ vp_in (nI i) 5 ∧ nI i + 1 = nI (i + 1) := limK_in (k := 5) rfl (by decide) h
theorem nW_out {G : Blk} {i : Nat} (hi : i ≤ 5) (h : nW G ≤ i) : G 0 6 ≤ nI i ∨ (¬ G 0 6 ≤ nI i ∧ 5 ≤ nI i) := limK_out (k := 5) rfl (by decide) hi h
section
variable {M : Mm} {m : Nat} {B : Blk}
theorem w6_0 : (wB M m 6 B).1 m = B 0 := wB_in0 (by decide)
theorem w6_1 : (wB M m 6 B).1 (m + 1) = B 1 := wB_in 1 (by decide)
theorem w6_2 : (wB M m 6 B).1 (m + 2) = B 2 := wB_in 2 (by decide)
theorem w6_3 : (wB M m 6 B).1 (m + 3) = B 3 := wB_in 3 (by decide)
theorem w6_4 : (wB M m 6 B).1 (m + 4) = B 4 := wB_in 4 (by decide)
theorem w6_5 : (wB M m 6 B).1 (m + 5) = B 5 := wB_in 5 (by decide)
theorem s6_0 {k : Nat} {v : Int32} : sI (wB M m 6 B) m k v = wB M m 6 (ub B 0 k v) := wB_sI0 k v (by decide)
theorem s6_1 {k : Nat} {v : Int32} : sI (wB M m 6 B) (m + 1) k v = wB M m 6 (ub B 1 k v) := wB_sI 1 k v (by decide)
theorem s6_2 {k : Nat} {v : Int32} : sI (wB M m 6 B) (m + 2) k v = wB M m 6 (ub B 2 k v) := wB_sI 2 k v (by decide)
theorem s6_3 {k : Nat} {v : Int32} : sI (wB M m 6 B) (m + 3) k v = wB M m 6 (ub B 3 k v) := wB_sI 3 k v (by decide)
theorem s6_4 {k : Nat} {v : Int32} : sI (wB M m 6 B) (m + 4) k v = wB M m 6 (ub B 4 k v) := wB_sI 4 k v (by decide)
theorem s6_5 {k : Nat} {v : Int32} : sI (wB M m 6 B) (m + 5) k v = wB M m 6 (ub B 5 k v) := wB_sI 5 k v (by decide)
end
theorem ub_cong {B C : Blk} {j k : Nat} {v : Int32} (h : ∀ i, i < 6 → B i = C i) : ∀ i, i < 6 → ub B j k v i = ub C j k v i := fun i hi => by
  funext l; simp only [ub]; rw [h i hi]
