/-! THE STATE of both: ground G, first moment F, story S (now, how many are known, the known), images I, text, trace -/
abbrev Stt : Type := Blk × Nat × (Nat → Blk)
theorem GrC.kept {M M' : Mm} {m : Nat} {B : Blk} (h : GrC M m B) (hk : ∀ j, j < 6 → M'.1 (m + j) = M.1 (m + j)) : GrC M' m B := fun j hj => (hk j hj).trans (h j hj)
/-- a story's past: ten moments in some order -/
def StL (M : Mm) (s : Nat) : Prop := ∃ π : Nat → Nat, (∀ i, i < 10 → π i < 10 ∧ M.2.2 (s + 7) i = s + 8 + 6 * π i) ∧ ∀ i j, i < 10 → j < 10 → π i = π j → i = j
def StC (M : Mm) (s : Nat) (S : Stt) : Prop := GrC M (s + 1) S.1 ∧ M.1 s 2 = nI S.2.1 ∧ S.2.1 ≤ 10 ∧ ∀ i, i < S.2.1 → GrC M (M.2.2 (s + 7) i) (S.2.2 i)
theorem StL.kept {M M' : Mm} {s : Nat} (h : StL M s) (hr : M'.2.2 (s + 7) = M.2.2 (s + 7)) : StL M' s := by
  obtain ⟨π, h1, h2⟩ := h
  exact ⟨π, fun i hi => by rw [hr]; exact h1 i hi, h2⟩
theorem StC.kept {M M' : Mm} {s : Nat} {S : Stt} (hl : StL M s) (h : StC M s S) (hr : M'.2.2 (s + 7) = M.2.2 (s + 7)) (hk : ∀ a, s ≤ a → a < s + 68 → M'.1 a = M.1 a) : StC M' s S := by
  obtain ⟨π, p1, p2⟩ := hl
  obtain ⟨h1, h2, h3, h4⟩ := h
  refine ⟨h1.kept (fun j hj => hk _ (by omega) (by omega)), by rw [hk s (by omega) (by omega)]; exact h2, h3, fun i hi => ?_⟩
  rw [hr]
  obtain ⟨q1, q2⟩ := p1 i (by omega)
  refine (h4 i hi).kept (fun j hj => hk _ ?_ ?_)
  · rw [q2]; omega
  · rw [q2]; omega
def LayC (T : Th) (x : Nat) : Prop := isX6 T x ∧ (∀ k, k < 10 → isX2 T (x + 16 + 8 + 6 * k)) ∧ (∀ k, k < 10 → isX2 T (x + 84 + 8 + 6 * k)) ∧ (∀ k, k < 10 → isX2 T (x + 152 + 8 + 6 * k)) ∧ isX1 T (x + 220) ∧ isX1 T (x + 232)
/-- both first moments: no minute, none caught, no stand, no work -/
def Zr (x : Nat) (M : Mm) : Prop := ∀ c, (c = 226 ∨ c = 230 ∨ c = 231 ∨ c = 238 ∨ c = 242 ∨ c = 243) → ∀ k, k < 5 → M.1 (x + c) k = 0
theorem Zr.kept {x : Nat} {M N : Mm} (h : Zr x M) (o : ∀ c, 226 ≤ c → N.1 (x + c) = M.1 (x + c)) : Zr x N := fun c hc k hk => by rw [o c (by omega)]; exact h c hc k hk
def CI (x : Nat) (M : Mm) (G F : Blk) (S : Stt) (I : Nat → Bool × Stt) (tn : Nat) (tb : Nat → Int32) (tr : Int64) : Prop :=
  ((M.2.2 x 7 = x + 220 ∧ M.2.2 x 8 = x + 232) ∨ (M.2.2 x 7 = x + 232 ∧ M.2.2 x 8 = x + 220)) ∧ GrC M (M.2.2 x 7) G ∧ GrC M (M.2.2 x 7 + 6) F ∧
  (StL M (x + 16) ∧ StC M (x + 16) S) ∧
  (∀ k, k < 2 → StL M (x + 84 + 68 * k) ∧ M.1 (x + 84 + 68 * k) 3 = b2i (I k).1 ∧ ((I k).1 = true → StC M (x + 84 + 68 * k) (I k).2)) ∧
  (M.1 (x + 1) 1 = nI tn ∧ ∀ k, k < tn → M.1 (x + 2) k = tb k) ∧ M.2.1 x 9 = tr ∧ Zr x M
/-- what questions leave as it was -/
def FrC (x : Nat) (M M' : Mm) : Prop := (∀ a, (a < x + 3 ∨ x + 16 ≤ a) → M'.1 a = M.1 a) ∧ M'.2.1 x = M.2.1 x ∧ M'.2.2 = M.2.2
theorem FrC.rf (x : Nat) (M : Mm) : FrC x M M := ⟨fun _ _ => rfl, rfl, rfl⟩
theorem FrC.trans {x : Nat} {M M1 M2 : Mm} (h : FrC x M M1) (h2 : FrC x M1 M2) : FrC x M M2 := ⟨fun a ha => (h2.1 a ha).trans (h.1 a ha), h2.2.1.trans h.2.1, h2.2.2.trans h.2.2⟩
theorem CI.frame {x : Nat} {M M' : Mm} {G F : Blk} {S : Stt} {I : Nat → Bool × Stt} {tn : Nat} {tb : Nat → Int32} {tr : Int64} (h : CI x M G F S I tn tb tr) (hf : FrC x M M') : CI x M' G F S I tn tb tr := by
  obtain ⟨h1, h2, h3, ⟨h4, h5⟩, h6, h7, h8⟩ := h
  obtain ⟨f1, f2, f3⟩ := hf
  unfold CI
  rw [f3]
  refine ⟨h1, h2.kept (fun j hj => f1 _ (by rcases h1 with h | h <;> rw [h.1] <;> omega)), h3.kept (fun j hj => f1 _ (by rcases h1 with h | h <;> rw [h.1] <;> omega)), ⟨h4.kept (by rw [f3]), h5.kept h4 (by rw [f3]) (fun a _ _ => f1 a (by omega))⟩, fun k hk => ?_, ?_, ?_⟩
  · obtain ⟨a, b, c⟩ := h6 k hk
    exact ⟨a.kept (by rw [f3]), by rw [f1 _ (by omega)]; exact b, fun q => (c q).kept a (by rw [f3]) (fun a _ _ => f1 a (by omega))⟩
  · rw [f1 _ (by omega), f1 _ (by omega)]; exact h7
  · rw [f2]; exact ⟨h8.1, h8.2.kept (fun c hc => f1 _ (by omega))⟩
theorem wB_FrC {x m n : Nat} {M : Mm} {B : Blk} (h1 : x + 3 ≤ m) (h2 : m + n ≤ x + 16) : FrC x M (wB M m n B) := ⟨fun a ha => wB_out (by omega), rfl, rfl⟩
theorem sI_FrC {x a k : Nat} {M : Mm} {v : Int32} (h1 : x + 3 ≤ a) (h2 : a < x + 16) : FrC x M (sI M a k v) := ⟨fun b hb => by funext j; simp only [sI]; rw [if_neg (by omega)], rfl, rfl⟩
theorem sL_FrC {x a k : Nat} {M : Mm} {v : Int64} (h1 : x + 3 ≤ a) : FrC x M (sL M a k v) := ⟨fun _ _ => rfl, by funext j; simp only [sL]; rw [if_neg (by omega)], rfl⟩
/-! the reference's -/
def RStt (n : Nat) (r : Nat → Int32) (S : Stt) : Prop := Rw n S.1 r ∧ r 31 = nI S.2.1 ∧ ∀ i, i < S.2.1 → Rw n (S.2.2 i) (fun k => r (32 + 31 * i + k))
def RI (y : Nat) (M : Mm) (G F : Blk) (S : Stt) (I : Nat → Bool × Stt) (tn : Nat) (tb : Nat → Int32) (tr : Int64) : Prop :=
  RG M y G ∧ (M.1 (y + 6) 0 = G 0 5 ∧ M.1 (y + 8) 0 = G 0 7 ∧ (∀ w, w < nW G → M.1 (y + 12) w = G 3 w)) ∧
  ((∀ w, w < nW G → M.1 (y + 10) w = F 1 w ∧ M.1 (y + 13) w = F 2 w) ∧ ∀ w, w < 10 → 0 ≤ M.1 (y + 10) w) ∧
  RStt (nW G) (M.1 (y + 17)) S ∧
  (∀ k, k < 2 → M.1 (y + 19) k = b2i (I k).1 ∧ ((I k).1 = true → RStt (nW G) (fun j => M.1 (y + 17) (342 * (1 + k) + j)) (I k).2)) ∧
  (M.1 y 2 = nI tn ∧ ∀ k, k < tn → M.1 (y + 1) k = (tb k).toInt8.toInt32) ∧ M.2.1 y 0 = tr
/-- what the reference's questions leave -/
def FrR (y : Nat) (M M' : Mm) : Prop := (∀ c, 1 ≤ c → c ≤ 17 ∨ c = 19 → M'.1 (y + c) = M.1 (y + c)) ∧ M'.1 y 2 = M.1 y 2 ∧ M'.2.1 y 0 = M.2.1 y 0
theorem FrR.rf (y : Nat) (M : Mm) : FrR y M M := ⟨fun _ _ _ => rfl, rfl, rfl⟩
theorem FrR.trans {y : Nat} {M M1 M2 : Mm} (h : FrR y M M1) (h2 : FrR y M1 M2) : FrR y M M2 := ⟨fun a ha hb => (h2.1 a ha hb).trans (h.1 a ha hb), h2.2.1.trans h.2.1, h2.2.2.trans h.2.2⟩
theorem RG.frame {y : Nat} {M M' : Mm} {G : Blk} (h : RG M y G) (hf : FrR y M M') : RG M' y G := by
  obtain ⟨f1, f2, f3⟩ := hf
  unfold RG at h ⊢
  rw [f1 2 (by decide) (by decide), f1 3 (by decide) (by decide), f1 4 (by decide) (by decide), f1 5 (by decide) (by decide), f1 7 (by decide) (by decide), f1 9 (by decide) (by decide), f1 16 (by decide) (by decide)]
  exact h
theorem RI.frame {y : Nat} {M M' : Mm} {G F : Blk} {S : Stt} {I : Nat → Bool × Stt} {tn : Nat} {tb : Nat → Int32} {tr : Int64} (h : RI y M G F S I tn tb tr) (hf : FrR y M M') : RI y M' G F S I tn tb tr := by
  obtain ⟨h1, h2⟩ := h
  refine ⟨h1.frame hf, ?_⟩
  obtain ⟨f1, f2, f3⟩ := hf
  rw [f1 6 (by decide) (by decide), f1 8 (by decide) (by decide), f1 12 (by decide) (by decide), f1 10 (by decide) (by decide), f1 13 (by decide) (by decide), f1 17 (by decide) (by decide), f1 19 (by decide) (by decide), f1 1 (by decide) (by decide), f2, f3]
  exact h2
theorem rT_FrR {y : Nat} {M : Mm} {r : Nat → Int32} {wt : Int32} : FrR y M (rT M y r wt) := ⟨fun c h1 h2 => rT_a c (by omega) (by omega), rT_f (by decide), rfl⟩
/-- a moment that is kept -/
def Wm (n : Nat) (B : Blk) : Prop := (∃ t, t ≤ 999 ∧ Wb n B t) ∧ ∀ w, w < n → 0 ≤ B 4 w ∧ B 4 w ≤ 99
def WSt (n : Nat) (S : Stt) : Prop := S.2.1 ≤ 10 ∧ Wm n S.1 ∧ ∀ i, i < S.2.1 → Wm n (S.2.2 i)
def WS (G F : Blk) (S : Stt) (I : Nat → Bool × Stt) (tn : Nat) (tb : Nat → Int32) : Prop :=
  WG G ∧ (∃ c, c < 4096 ∧ G 0 5 = nI c) ∧ (F 0 0 = 0 ∧ F 0 1 = 0 ∧ ∀ w, w < nW G → 0 ≤ F 1 w ∧ F 1 w ≤ 20 ∧ F 4 w = 0 ∧ F 5 w = 0 ∧ F 3 w = mins G (nI w) (F 1 w)) ∧ WSt (nW G) S ∧ (∀ k, k < 2 → (I k).1 = true → WSt (nW G) (I k).2) ∧ tn ≤ 200 ∧ ∀ k, k < tn → 0 ≤ tb k ∧ tb k ≤ 255
def Inv (x y : Nat) (M M' : Mm) : Prop := ∃ (G F : Blk) (S : Stt) (I : Nat → Bool × Stt) (tn : Nat) (tb : Nat → Int32) (tr : Int64), CI x M G F S I tn tb tr ∧ RI y M' G F S I tn tb tr ∧ WS G F S I tn tb
theorem CI.isG {T : Th} {x : Nat} {M : Mm} {G F : Blk} {S : Stt} {I : Nat → Bool × Stt} {tn : Nat} {tb : Nat → Int32} {tr : Int64} (hL : LayC T x) (h : CI x M G F S I tn tb tr) : isX1 T (M.2.2 x 7) := by
  rcases h.1 with h | h <;> rw [h.1]
  · exact hL.2.2.2.2.1
  · exact hL.2.2.2.2.2
theorem r_isWagon {T : Th} {M : Mm} {y : Nat} {G : Blk} {w : Int32} {Q : Int32 → Mm → Prop} (h0 : isX7 T y) (hG : RG M y G) (hW : WG G) (hq : Q (b2i (hasWg G w)) M) : WPi T mX7_isWagon [.ref y, .int w] M Q := by
  refine WPM.of (by decide) rfl (Nat.le_of_ble_eq_true rfl) (sg_X7_isWagon_0 h0 (r_in ?_))
  rw [hG.2.2.2.2.1]
  have h5 := nW_le G
  have h6 := hW.2.1
  have e : (if 0 ≤ w ∧ w ≤ G 0 6 - 1 then (1 : Int32) else 0) = b2i (hasWg G w) := by
    have h7 : 0 ≤ G 0 6 ∧ G 0 6 ≤ 5 := by rw [h6]; exact ⟨nI_pos' (by omega), nI_le (b := 5) (by omega) (by omega)⟩
    unfold b2i hasWg
    grind
  rw [e]
  exact ⟨by unfold b2i; split <;> simp, hq⟩
