/-! PIECES AND WHAT WAS MET -/
section
variable {T T' : Th} {x y : Nat} {M M' : Mm}
def mx (a b : Int32) : Int32 := if a < b then b else a
def pieF (G : Blk) (r : Int32) : Nat → Int32 → Blk → Int32 × Blk
  | 0, a, B => (a, B)
  | m + 1, a, B => pieF G r m (mx a (lenB G (passB G B).1 r)) (passB G B).1
theorem l_cpie {G F : Blk} {S : Stt} {I : Nat → Bool × Stt} {tn n : Nat} {tb : Nat → Int32} {tr : Int64} {r : Int32} {Q : Int32 → Mm → Prop} (hL : LayC T x) (hC : CI x M G F S I tn tb tr) (hn : n ≤ 60) :
    ∀ (m i : Nat) (a : Int32) (B : Blk), i + m = n → Q (pieF G r m a B).1 (wB M (x + 10) 6 (pieF G r m a B).2) → WP T mX6_pieces 51 [(0, .ref x), (1, .int r), (2, .int (nI n)), (3, .int a), (4, .int (nI i))] [] (wB M (x + 10) 6 B) (qi Q) := by
  intro m
  induction m with
  | zero =>
    intro i a B hi hq
    exact sg_X6_pieces_51 hL.1 ⟨fun _ => hq, fun z => absurd (nI_le (by omega) (by omega)) z⟩
  | succ m ih =>
    intro i a B hi hq
    refine sg_X6_pieces_51 hL.1 ⟨fun z => absurd z (nI_ge (by omega) (by omega)), fun _ => ?_⟩
    rw [nI_1]
    simp only [forall_eq]
    have hC2 := hC.frame (FrC.tri (B := (passB G B).1))
    refine ⟨(hC.frame FrC.tri).isG hL, c_passT hL hC ⟨hC2.isG hL, c_len (hC2.isG hL) hL.tri hC2.2.1 GrC.own ?_⟩⟩
    exact ih (i + 1) _ _ (by omega) hq
theorem lenS_in {B : Blk} {r : Int32} {n : Nat} {K : Int32} (hk : Wk n B K) : ∀ (m i : Nat) (s : Int32 × Int32), i + m ≤ n → ((s.1 = -1 ∧ s.2 = -1) ∨ (0 ≤ s.1 ∧ s.1 ≤ s.2 ∧ s.2 ≤ K)) → (((foldF (lenS B r) i m s).1 = -1 ∧ (foldF (lenS B r) i m s).2 = -1) ∨ (0 ≤ (foldF (lenS B r) i m s).1 ∧ (foldF (lenS B r) i m s).1 ≤ (foldF (lenS B r) i m s).2 ∧ (foldF (lenS B r) i m s).2 ≤ K))
  | 0, _, _, _, h => h
  | m + 1, i, s, hm, h => by
    simp only [foldF]
    refine lenS_in hk m (i + 1) _ (by omega) ?_
    have := hk i (by omega)
    unfold lenS
    grind
theorem len_pos {G B : Blk} {r : Int32} {t : Nat} (hb : Wb (nW G) B t) (ht : t ≤ 2000) : 0 ≤ lenB G B r := by
  have h := lenS_in (r := r) hb.2.2 (nW G) 0 (-1, -1) (by omega) (Or.inl ⟨rfl, rfl⟩)
  have hK : nI (20 + 5 * t) ≤ 30000 := nI_le (b := 30000) (by omega) (by omega)
  unfold lenB lenF
  grind
/-- the reference's inner loop: the first and the last on a rail -/
theorem l_rlen {G B : Blk} {rl x2 x3 x4 K : Int32} {Q : Int32 → Mm → Prop} (h7 : isX7 T' y) (hG : RG M' y G) (hW : WG G) (hr : Rw (nW G) B (M'.1 (y + 18))) (hk : Wk (nW G) B K)
    (hq : WP T' mX7_pieces 170 [(0, .ref y), (1, .int rl), (2, .int x2), (3, .int x3), (4, .int x4)] [.int (lenB G B rl)] M' (qi Q)) :
    ∀ (n i : Nat) (s : Int32 × Int32) (a b : Int32), i + n = nW G → lenB G B rl = lenF (foldF (lenS B rl) i n s) → ((a = -9 ∧ b = -9 ∧ s = (-1, -1)) ∨ (a = s.2 ∧ b = s.1 ∧ 0 ≤ s.1 ∧ s.1 ≤ s.2)) → WP T' mX7_pieces 47 [(0, .ref y), (1, .int rl), (2, .int x2), (3, .int x3), (4, .int x4), (5, .int a), (6, .int b), (7, .int (nI i))] [] M' (qi Q) := by
  have h5 := nW_le G
  intro n
  induction n with
  | zero =>
    intro i s a b hi hs hab
    refine sg_X7_pieces_47 h7 ?_
    rw [hG.2.2.2.2.1, hW.2.1]
    refine ⟨fun _ => ⟨fun z => ?_, fun z => ?_⟩, fun z => absurd (nI_le (by omega) (by omega)) z⟩
    · simp only [foldF] at hs
      have e : lenB G B rl = a - b + 1 := by
        rw [hs]; unfold lenF
        rcases hab with h | ⟨h1, h2, h3, h4⟩
        · exact absurd h.1 z
        · rw [h1, h2]; grind
      rw [← e]; exact hq
    · simp only [foldF] at hs
      have e : lenB G B rl = 0 := by
        rw [hs]; unfold lenF
        rcases hab with ⟨h1, h2, h3⟩ | ⟨h1, h2, h3, h4⟩
        · rw [h3]; rfl
        · rw [z] at h1; grind
      rw [← e]; exact hq
  | succ n ih =>
    intro i s a b hi hs hab
    refine sg_X7_pieces_47 h7 ?_
    obtain ⟨r1, r2, r3, r4, r5, r6⟩ := hr.2 i (by omega)
    have hki := hk i (by omega)
    rw [hG.2.2.2.2.1, hW.2.1, p_26, p_1, cl_nI (by omega), cl_nI (by omega), r5, r1, nI_1]
    simp only [forall_eq]
    simp only [foldF] at hs
    have v1 := vp_nI (i := 1 + i) (n := 31) (by omega) (by decide)
    refine ⟨fun z => absurd z (nI_ge (by omega) (by omega)), fun _ => ⟨vp_nI (by omega) (by decide), fun z => ?_, fun z => ?_⟩⟩
    · rw [show lenS B rl s i = s from if_neg z] at hs
      exact ih (i + 1) s a b (by omega) hs hab
    · rw [show lenS B rl s i = _ from if_pos z] at hs
      -- behind the choice of the first
      have key : ∀ f : Int32, f = (if s.2 < B 1 i then B 1 i else s.2) → WP T' mX7_pieces 107 [(0, .ref y), (1, .int rl), (2, .int x2), (3, .int x3), (4, .int x4), (6, .int b), (7, .int (nI i))] [.int f] M' (qi Q) := by
        intro f hf
        refine sg_X7_pieces_107 h7 ?_
        rw [p_1, cl_nI (by omega), r1, nI_1]
        simp only [forall_eq]
        refine ⟨fun z2 => ⟨v1, ?_⟩, fun z2 => ⟨v1, fun z3 => ?_, fun z3 => ⟨v1, ?_⟩⟩⟩
        · refine ih (i + 1) _ _ _ (by omega) hs (Or.inr ⟨hf, ?_, ?_, ?_⟩)
          · rcases hab with ⟨h1, h2, h3⟩ | ⟨h1, h2, h3, h4⟩
            · rw [h3]; simp
            · rw [z2] at h2; grind
          · rcases hab with ⟨h1, h2, h3⟩ | ⟨h1, h2, h3, h4⟩
            · rw [h3]; simp; exact hki.1
            · rw [z2] at h2; grind
          · rcases hab with ⟨h1, h2, h3⟩ | ⟨h1, h2, h3, h4⟩
            · rw [h3]; grind
            · rw [z2] at h2; grind
        · rcases hab with ⟨h1, h2, h3⟩ | ⟨h1, h2, h3, h4⟩
          · exact absurd h2 z2
          · refine ih (i + 1) _ _ _ (by omega) hs (Or.inr ⟨hf, ?_, ?_, ?_⟩) <;> grind
        · rcases hab with ⟨h1, h2, h3⟩ | ⟨h1, h2, h3, h4⟩
          · exact absurd h2 z2
          · refine ih (i + 1) _ _ _ (by omega) hs (Or.inr ⟨hf, ?_, ?_, ?_⟩) <;> grind
      refine ⟨fun z2 => ⟨v1, key _ ?_⟩, fun z2 => ⟨v1, fun z3 => key _ ?_, fun z3 => ⟨v1, key _ ?_⟩⟩⟩
      · rcases hab with ⟨h1, h2, h3⟩ | ⟨h1, h2, h3, h4⟩
        · rw [h3]; grind
        · rw [z2] at h1; grind
      · rcases hab with ⟨h1, h2, h3⟩ | ⟨h1, h2, h3, h4⟩
        · exact absurd h1 z2
        · grind
      · rcases hab with ⟨h1, h2, h3⟩ | ⟨h1, h2, h3, h4⟩
        · exact absurd h1 z2
        · grind
theorem l_rpie {G : Blk} {rl : Int32} {n : Nat} {Q : Int32 → Mm → Prop} (h7 : isX7 T' y) (hG : RG M' y G) (hW : WG G) (hn : n ≤ 60) :
    ∀ (m i : Nat) (a : Int32) (B : Blk) (r : Nat → Int32) (wt : Int32) (q : Nat), i + m = n → Rw (nW G) B r → Wb (nW G) B q → q + m ≤ 1900 → (∀ r' wt', Q (pieF G rl m (mx a (lenB G B rl)) B).1 (rT M' y r' wt')) → WP T' mX7_pieces 30 [(0, .ref y), (1, .int rl), (2, .int (nI n)), (3, .int a), (4, .int (nI i))] [] (rT M' y r wt) (qi Q) := by
  intro m
  induction m with
  | zero =>
    intro i a B r wt q hi hr hb hq1 hq
    refine sg_X7_pieces_30 h7 ⟨fun z => absurd z (nI_nlt (by omega) (by omega)), fun _ => ?_⟩
    refine l_rlen (B := B) h7 hG.T hW (by rw [rT_t]; exact hr) hb.2.2 (sg_X7_pieces_170 h7 ?_) (nW G) 0 (-1, -1) (-9) (-9) (by omega) rfl (Or.inl ⟨rfl, rfl, rfl⟩)
    simp only [pieF, mx] at hq
    have fin : ∀ b : Int32, b = (if a < lenB G B rl then lenB G B rl else a) → WPv T' mX7_pass [.ref y] (rT M' y r wt) (fun M1 => ∀ v2 : Int32, v2 = nI i + 1 → WP T' mX7_pieces 30 [(0, .ref y), (1, .int rl), (2, .int (nI n)), (3, .int b), (4, .int v2)] [] M1 (qi Q)) := by
      intro b hbb
      refine r_pass (B := B) (t := q) h7 hG.T hW (by rw [rT_t]; exact hr) hb (by omega) (fun r' hr' v2 e2 => ?_)
      rw [e2, nI_1, rT_rT]
      refine sg_X7_pieces_30 h7 ⟨fun _ => ?_, fun z => absurd (nI_lt (by omega) (by omega)) z⟩
      rw [hbb]; exact hq _ _
    exact ⟨fun z => fin a (by grind), fun z => fin _ (by grind)⟩
  | succ m ih =>
    intro i a B r wt q hi hr hb hq1 hq
    refine sg_X7_pieces_30 h7 ⟨fun z => absurd z (nI_nlt (by omega) (by omega)), fun _ => ?_⟩
    refine l_rlen (B := B) h7 hG.T hW (by rw [rT_t]; exact hr) hb.2.2 (sg_X7_pieces_170 h7 ?_) (nW G) 0 (-1, -1) (-9) (-9) (by omega) rfl (Or.inl ⟨rfl, rfl, rfl⟩)
    have fin : ∀ b : Int32, b = mx a (lenB G B rl) → WPv T' mX7_pass [.ref y] (rT M' y r wt) (fun M1 => ∀ v2 : Int32, v2 = nI i + 1 → WP T' mX7_pieces 30 [(0, .ref y), (1, .int rl), (2, .int (nI n)), (3, .int b), (4, .int v2)] [] M1 (qi Q)) := by
      intro b hbb
      refine r_pass (B := B) (t := q) h7 hG.T hW (by rw [rT_t]; exact hr) hb (by omega) (fun r' hr' v2 e2 => ?_)
      rw [e2, nI_1, rT_rT]
      refine ih (i + 1) b _ r' _ (q + 1) (by omega) hr' (hb.pass hW (by omega)) (by omega) ?_
      rw [hbb]; exact hq
    exact ⟨fun z => fin a (by unfold mx; grind), fun z => fin _ (by unfold mx; grind)⟩
theorem e_pieces {r n : Int32} (hL : LayC T x) (h7 : isX7 T' y) (hI : Inv x y M M') : WPi T mX6_pieces [.ref x, .int r, .int n] M (fun v N => WPi T' mX7_pieces [.ref y, .int r, .int n] M' (fun v' N' => v' = v ∧ Inv x y N N')) := by
  have hI' := hI
  obtain ⟨G, F, S, I, tn, tb, tr, hC, hR, hS⟩ := hI
  have h5 := nW_le G
  have hW := hS.1
  obtain ⟨⟨t, ht, hwb⟩, hws⟩ := hS.2.2.2.1.2.1
  have bad : ¬ ((0 ≤ r ∧ r ≤ 2) ∧ 0 ≤ n ∧ n ≤ 60) → WPi T' mX7_pieces [.ref y, .int r, .int n] M' (fun v' N' => v' = -1 ∧ Inv x y M N') := by
    intro hb
    refine WPM.of (by decide) rfl (Nat.le_of_ble_eq_true rfl) (sg_X7_pieces_0 h7 (r_in ?_))
    by_cases hr : 0 ≤ r ∧ r ≤ 2
    · rw [if_pos hr]
      refine ⟨fun z => absurd z (by decide), fun _ => r_in ?_⟩
      rw [if_neg (fun q => hb ⟨hr, q⟩)]
      exact ⟨fun z => absurd rfl z, fun _ => ⟨rfl, hI'⟩⟩
    · rw [if_neg hr]
      exact ⟨fun _ => ⟨rfl, hI'⟩, fun z => absurd rfl z⟩
  refine WPM.of (by decide) rfl (Nat.le_of_ble_eq_true rfl) (sg_X6_pieces_0 hL.1 ?_)
  refine ⟨fun z => bad (by grind), fun z => ⟨fun z2 => bad (by grind), fun z2 => ⟨fun z3 => bad (by grind), fun z3 => ⟨fun z4 => c_trial hL hC (fun C ag => ?_), fun z4 => bad (by grind)⟩⟩⟩⟩
  have hr : 0 ≤ r ∧ r ≤ 2 := by grind
  have hn : 0 ≤ n ∧ n ≤ 60 := by grind
  obtain ⟨m, hm, rfl⟩ := nI_of2 (M := 60) (n := 60) rfl (Int32.not_lt.mpr hn.1) hn.2
  have hC2 := hC.frame (FrC.tri (B := C))
  simp only [forall_eq]
  refine ⟨hC2.isG hL, c_len (hC2.isG hL) hL.tri hC2.2.1 GrC.own ?_⟩
  refine l_cpie hL hC hm m 0 _ C (by omega) ?_
  refine WPM.of (by decide) rfl (Nat.le_of_ble_eq_true rfl) (sg_X7_pieces_0 h7 (r_in ?_))
  rw [if_pos hr]
  refine ⟨fun z => absurd z (by decide), fun _ => r_in ?_⟩
  rw [if_pos hn]
  refine ⟨fun _ => r_toThen h7 (fun r2 hr2 => ?_), fun z => absurd z (by decide)⟩
  have hwb2 := hwb.ag h5 ag
  have hrw : Rw (nW G) C r2 := (hR.2.2.2.1.1.cong h5 hr2).ag h5 ag
  have hmx : mx 0 (lenB G C r) = lenB G C r := by
    have := len_pos (r := r) hwb2 (by omega)
    unfold mx; grind
  refine l_rpie h7 hR.1 hW hm m 0 0 C r2 _ t (by omega) hrw hwb2 (by omega) (fun r' wt' => ?_)
  rw [hmx]
  exact ⟨rfl, G, F, S, I, tn, tb, tr, hC.frame FrC.tri, hR.frame rT_FrR, hS⟩
end
