/-! THE REFERENCE's PLAN -/
def RLk (M : Mm) (y : Nat) (L : List (Nat × Int32)) : Prop := M.1 y 31 = nI L.length ∧ ∀ i, i < L.length → M.1 (y + 20) i = nI (lW L i) ∧ M.1 (y + 21) i = lK L i
def FrL (y : Nat) (M N : Mm) : Prop := (∀ c, 1 ≤ c → c ≠ 20 → c ≠ 21 → N.1 (y + c) = M.1 (y + c)) ∧ (∀ k, k ≠ 31 → N.1 y k = M.1 y k) ∧ N.2 = M.2
def FrP (y : Nat) (M N : Mm) : Prop := (∀ c, 1 ≤ c → c ≤ 17 ∨ c = 19 ∨ c = 20 ∨ c = 21 → N.1 (y + c) = M.1 (y + c)) ∧ N.1 y 31 = M.1 y 31 ∧ N.1 y 2 = M.1 y 2 ∧ N.2 = M.2
theorem FrL.R {y : Nat} {M N : Mm} (h : FrL y M N) : FrR y M N := ⟨fun c h1 h2 => h.1 c h1 (by omega) (by omega), h.2.1 2 (by decide), by rw [h.2.2]⟩
theorem FrP.R {y : Nat} {M N : Mm} (h : FrP y M N) : FrR y M N := ⟨fun c h1 h2 => h.1 c h1 (by omega), h.2.2.1, by rw [h.2.2.2]⟩
theorem FrP.rf (y : Nat) (M : Mm) : FrP y M M := ⟨fun _ _ _ => rfl, rfl, rfl, rfl⟩
theorem FrP.trans {y : Nat} {M M1 M2 : Mm} (h : FrP y M M1) (h2 : FrP y M1 M2) : FrP y M M2 := ⟨fun c a b => (h2.1 c a b).trans (h.1 c a b), h2.2.1.trans h.2.1, h2.2.2.1.trans h.2.2.1, h2.2.2.2.trans h.2.2.2⟩
theorem FrP.t {y : Nat} {M : Mm} {r : Nat → Int32} {wt : Int32} : FrP y M (rT M y r wt) := ⟨fun c h1 h2 => rT_a c (by omega) (by omega), rT_f (by decide), rT_f (by decide), rfl⟩
theorem FrP.s {y c k : Nat} {M : Mm} {v : Int32} (hc : 22 ≤ c) : FrP y M (sI M (y + c) k v) := ⟨fun d h1 h2 => by funext j; simp only [sI]; rw [if_neg (by omega)], by simp only [sI]; rw [if_neg (by omega)], by simp only [sI]; rw [if_neg (by omega)], rfl⟩
theorem RLk.kept {y : Nat} {M N : Mm} {L : List (Nat × Int32)} (h : RLk M y L) (hf : FrP y M N) : RLk N y L := by
  unfold RLk at h ⊢
  rw [hf.2.1, hf.1 20 (by decide) (by decide), hf.1 21 (by decide) (by decide)]
  exact h
def btI (sp : Nat) : Int32 := if sp < 3 then nI sp else -9
theorem btI_eq {i sp : Nat} (hi : i < 3) : nI i = btI sp ↔ i = sp := by
  unfold btI
  split
  · rename_i h; exact nI_eq (by omega) (by omega)
  · rename_i h
    exact ⟨fun e => absurd e (m9_m1 (by omega)).1, fun e => by omega⟩
section
variable {T T' : Th} {x y : Nat} {M M' : Mm}
theorem l_findLacking {G B : Blk} {Q : Mm → Prop} (h7 : isX7 T y) (hG : RG M y G) (hW : WG G) (hw3 : ∀ w, w < nW G → M.1 (y + 12) w = G 3 w) (hr : Rw (nW G) B (M.1 (y + 17))) (hq : ∀ N, FrL y M N → RLk N y (lkL G B) → Q N) :
    ∀ (n i : Nat) (N : Mm) (L : List (Nat × Int32)), i + n = nW G → L.length ≤ 3 → lkF G B i n L = lkL G B → RLk N y L → FrL y M N → WP T mX7_findLacking 7 [(0, .ref y), (1, .int (nI i))] [] N (qv Q) := by
  have h5 := nW_le G
  intro n
  induction n with
  | zero =>
    intro i N L hi hl hk hp ho
    refine sg_X7_findLacking_7 h7 ?_
    rw [ho.1 7 (by decide) (by decide) (by decide), hG.2.2.2.2.1, hW.2.1]
    simp only [lkF] at hk
    exact ⟨fun _ => hq N ho (by rw [← hk]; exact hp), fun z => absurd (nI_le (by omega) (by omega)) z⟩
  | succ n ih =>
    intro i N L hi hl hk hp ho
    refine sg_X7_findLacking_7 h7 ?_
    obtain ⟨a1, a2, a3, a4, a5, a6⟩ := hr.2 i (by omega)
    rw [ho.1 7 (by decide) (by decide) (by decide), ho.1 12 (by decide) (by decide) (by decide), ho.1 17 (by decide) (by decide) (by decide), hG.2.2.2.2.1, hW.2.1, hp.1, p_16, p_11, p_21, cl_nI (by omega), cl_nI (by omega), cl_nI (by omega), cl_nI (by omega), a3, a4, a6, hw3 i (by omega), nI_1]
    simp only [forall_eq]
    simp only [lkF] at hk
    refine ⟨fun z => absurd z (nI_ge (by omega) (by omega)), fun _ => ⟨fun z => ?_, fun z => ?_⟩⟩
    · have h3' : 3 ≤ L.length := by rw [show (3 : Int32) = nI 3 from rfl, nI_leI (by omega) (by omega)] at z; exact z
      rw [if_pos h3'] at hk
      exact hq N ho (by rw [← hk]; exact hp)
    · have h3' : ¬ 3 ≤ L.length := fun q => z (nI_le (a := 3) q (by omega))
      rw [if_neg h3'] at hk
      have skip : lkC G B i = false → WP T mX7_findLacking 7 [(0, .ref y), (1, .int (nI (i + 1)))] [] N (qv Q) := fun hc => by
        rw [hc] at hk
        exact ih (i + 1) N L (by omega) hl hk hp ho
      refine ⟨vp_nI (by omega) (by decide), vp_nI (by omega) (by decide), vp_nI (by omega) (by decide), vp_nI (by omega) (by decide), fun z2 => skip ?_, fun z2 => ⟨fun z3 => skip ?_, fun z3 => ?_⟩⟩
      · unfold lkC
        cases hb : bget (B 0 1) i
        · rw [hb] at z2; exact absurd rfl z2
        · simp
      · unfold lkC
        rw [decide_eq_false (Int32.not_lt.mpr z3)]; rfl
      · have hb : bget (B 0 1) i = false := by
          cases hb : bget (B 0 1) i
          · rfl
          · rw [hb] at z2; exact absurd z2 (by decide)
        have hlk : lkC G B i = true := by
          unfold lkC
          rw [hb, decide_eq_true (Int32.not_le.mp z3)]; rfl
        rw [hlk] at hk
        simp only [if_true] at hk
        have q1 : (sI N (y + 20) L.length (nI i)).1 y 31 = nI L.length := by simp only [sI]; rw [if_neg (by omega)]; exact hp.1
        rw [cl_nI (i := L.length) (by omega), q1, cl_nI (i := L.length) (by omega)]
        refine ⟨vp_nI (by omega) (by decide), vp_nI (by omega) (by decide), ?_⟩
        have q2 : (sI (sI N (y + 20) L.length (nI i)) (y + 21) L.length (G 3 i - B 5 i - B 4 i)).1 y 31 = nI L.length := by simp only [sI]; rw [if_neg (by omega), if_neg (by omega)]; exact hp.1
        rw [q2, nI_1]
        refine ih (i + 1) _ (L ++ [(i, G 3 i - B 5 i - B 4 i)]) (by omega) (by simp; omega) hk ⟨?_, fun j hj => ?_⟩ ⟨fun c c1 c2 c3 => ?_, fun k hk => ?_, ho.2.2⟩
        · simp [sI]
        · have hj' : j < L.length + 1 := by simpa using hj
          by_cases e : j = L.length
          · subst e
            refine ⟨?_, ?_⟩
            · simp only [sI]; rw [if_neg (by omega), if_neg (by omega), if_pos ⟨trivial, trivial⟩]
              unfold lW; simp
            · simp only [sI]; rw [if_neg (by omega), if_pos ⟨trivial, trivial⟩]
              unfold lK; simp
          · obtain ⟨a1, a2⟩ := hp.2 j (by omega)
            refine ⟨?_, ?_⟩
            · simp only [sI]; rw [if_neg (by omega), if_neg (by omega), if_neg (by omega), a1]
              unfold lW; rw [List.getD_eq_getElem?_getD, List.getD_eq_getElem?_getD, List.getElem?_append_left (by omega)]
            · simp only [sI]; rw [if_neg (by omega), if_neg (by omega), if_neg (by omega), a2]
              unfold lK; rw [List.getD_eq_getElem?_getD, List.getD_eq_getElem?_getD, List.getElem?_append_left (by omega)]
        · rw [← ho.1 c c1 c2 c3]; funext k; simp only [sI]; rw [if_neg (by omega), if_neg (by omega), if_neg (by omega)]
        · rw [← ho.2.1 k hk]; simp only [sI]; rw [if_neg (by omega), if_neg (by omega), if_neg (by omega)]
theorem r_findLacking {G B : Blk} {Q : Mm → Prop} (h7 : isX7 T y) (hG : RG M y G) (hW : WG G) (hw3 : ∀ w, w < nW G → M.1 (y + 12) w = G 3 w) (hr : Rw (nW G) B (M.1 (y + 17))) (hq : ∀ N, FrL y M N → RLk N y (lkL G B) → Q N) : WPv T mX7_findLacking [.ref y] M Q := by
  refine WPM.of (by decide) rfl (Nat.le_of_ble_eq_true rfl) (sg_X7_findLacking_0 h7 ?_)
  simp only [forall_eq]
  refine l_findLacking h7 hG hW hw3 hr hq (nW G) 0 _ [] (by omega) (by simp) rfl ⟨?_, fun i hi => by simp at hi⟩ ⟨fun c c1 c2 c3 => ?_, fun k hk => ?_, rfl⟩
  · simp [sI]; rfl
  · funext k; simp only [sI]; rw [if_neg (by omega)]
  · simp only [sI]; rw [if_neg (by omega)]
theorem upd_id (r : Nat → Int32) (k : Nat) : upd r k (r k + 0) = r := by
  funext j
  by_cases h : j = k
  · subst h; simp [upd]
  · exact upd_nm r _ h
theorem l_well20 {G : Blk} {L : List (Nat × Int32)} {sp t : Nat} {st : Nat → Nat} {had : Int32} {Q : Int32 → Mm → Prop} (h7 : isX7 T y) (hl : RLk M y L) (hL : L.length ≤ 3) (hw : ∀ i, i < L.length → lW L i < nW G) (hst : ∀ i, i < L.length → M.1 (y + 22) i = nI (st i) ∧ st i ≤ 100) (ht : t ≤ 100) :
    ∀ (n i : Nat) (B : Blk) (r : Nat → Int32) (wt : Int32), i + n = L.length → Rw (nW G) B r → (∀ r', Rw (nW G) (foldF (ordS L sp st t) i n B) r' → WPv T mX7_pass [.ref y] (rT M y r' wt) (fun M1 => ∀ v2 : Int32, v2 = nI t + 1 → WP T mX7_isWell 11 [(0, .ref y), (1, .int (btI sp)), (2, .int had), (3, .int v2)] [] M1 (qi Q))) → WP T mX7_isWell 20 [(0, .ref y), (1, .int (btI sp)), (2, .int had), (3, .int (nI t)), (4, .int (nI i))] [] (rT M y r wt) (qi Q) := by
  have h5 := nW_le G
  intro n
  induction n with
  | zero =>
    intro i B r wt hi hr hp
    refine sg_X7_isWell_20 h7 ?_
    rw [rT_f (by decide), hl.1]
    exact ⟨fun _ => hp r hr, fun z => absurd (nI_le (by omega) (by omega)) z⟩
  | succ n ih =>
    intro i B r wt hi hr hp
    refine sg_X7_isWell_20 h7 ?_
    obtain ⟨w1, w2⟩ := hl.2 i (by omega)
    have hwi := hw i (by omega)
    obtain ⟨s1, s2⟩ := hst i (by omega)
    obtain ⟨a1, a2, a3, a4, a5, a6⟩ := hr.2 (lW L i) hwi
    rw [rT_f (by decide), rT_a 20 (by decide) (by decide), rT_a 21 (by decide) (by decide), rT_a 22 (by decide) (by decide), rT_t, hl.1, cl_nI (by omega), w1, w2, s1, nI_1 i]
    simp only [forall_eq]
    rw [p_11, p_21, cl_nI (by omega), cl_nI (by omega), rT_st, rT_st, upd_id, a6]
    simp only [foldF] at hp
    have v31 : vp_in (nI (11 + lW L i)) 31 := vp_nI (by omega) (by decide)
    have v31' : vp_in (nI (21 + lW L i)) 31 := vp_nI (by omega) (by decide)
    have v3 : vp_in (nI i) 3 := vp_nI (by omega) (by decide)
    have skip : ¬ (st i = t ∧ i ≠ sp ∧ bget (B 0 1) (lW L i) = false) → WP T mX7_isWell 20 [(0, .ref y), (1, .int (btI sp)), (2, .int had), (3, .int (nI t)), (4, .int (nI (i + 1)))] [] (rT M y r wt) (qi Q) := fun h => by
      rw [show ordS L sp st t B i = B from if_neg h] at hp
      exact ih (i + 1) B r wt (by omega) hr hp
    refine ⟨fun z => absurd z (nI_ge (by omega) (by omega)), fun _ => ⟨v3, v31, fun z => ⟨v31, skip (fun q => q.2.1 ((btI_eq (by omega)).mp z))⟩, fun z => ⟨v3, fun z2 => ⟨v31, skip (fun q => z2 (by rw [q.1]))⟩, fun z2 => ⟨v31', fun z3 => ⟨v31, skip (fun q => z3 (by rw [q.2.2]; rfl))⟩, fun z3 => ⟨v3, v31, ?_⟩⟩⟩⟩⟩
    have hb : bget (B 0 1) (lW L i) = false := by
      cases hb : bget (B 0 1) (lW L i)
      · rfl
      · rw [hb] at z3; exact absurd z3 (by decide)
    rw [show ordS L sp st t B i = ub B 4 (lW L i) (B 4 (lW L i) + lK L i) from if_pos ⟨(nI_eq (by omega) (by omega)).mp z2, fun e => z ((btI_eq (by omega)).mpr e), hb⟩] at hp
    rw [a3]
    exact ih (i + 1) _ _ wt (by omega) (hr.u4 h5 hwi) hp
theorem l_well11 {G : Blk} {L : List (Nat × Int32)} {sp d : Nat} {st : Nat → Nat} {Q : Int32 → Mm → Prop} (h7 : isX7 T y) (hG : RG M y G) (hW : WG G) (hl : RLk M y L) (hL : L.length ≤ 3) (hw : ∀ i, i < L.length → lW L i < nW G) (hst : ∀ i, i < L.length → M.1 (y + 22) i = nI (st i) ∧ st i ≤ 100) :
    ∀ (m t : Nat) (B : Blk) (r : Nat → Int32) (wt : Int32) (u : Nat), t + m = 40 → Rw (nW G) B r → Wb (nW G) B u → u + m ≤ 2000 → (∀ r' wt', Q (if wellF G L sp st m t B 0 1 = nI d then 1 else 0) (rT M y r' wt')) → WP T mX7_isWell 11 [(0, .ref y), (1, .int (btI sp)), (2, .int (nI d)), (3, .int (nI t))] [] (rT M y r wt) (qi Q) := by
  intro m
  induction m with
  | zero =>
    intro t B r wt u ht hr hb hu hq
    refine sg_X7_isWell_11 h7 ⟨fun _ => r_cau h7 hG.T hW (by rw [rT_t]; exact hr) hb.2.1 ?_, fun z => absurd (nI_le (a := 40) (by omega) (by omega)) z⟩
    simp only [wellF] at hq
    exact ⟨fun z => by simp only [z, if_false] at hq; exact hq r wt, fun z => by simp only [z, if_true] at hq; exact hq r wt⟩
  | succ m ih =>
    intro t B r wt u ht hr hb hu hq
    refine sg_X7_isWell_11 h7 ⟨fun z => absurd z (nI_ge (b := 40) (by omega) (by omega)), fun _ => ?_⟩
    refine l_well20 (G := G) (st := st) h7 hl hL hw hst (by omega) L.length 0 B r wt (by omega) hr (fun r' hr' => ?_)
    have hb2 : Wb (nW G) (ordB L sp st t B) u := hb.ord
    refine r_pass (B := ordB L sp st t B) (t := u) h7 hG.T hW (by rw [rT_t]; exact hr') hb2 (by omega) (fun r3 hr3 => ?_)
    rw [rT_rT, nI_1]
    simp only [forall_eq]
    exact ih (t + 1) _ r3 _ (u + 1) (by omega) hr3 (hb2.pass hW (by omega)) (by omega) hq
theorem r_isWell {G B : Blk} {L : List (Nat × Int32)} {sp u : Nat} {st : Nat → Nat} {Q : Int32 → Mm → Prop} (h7 : isX7 T y) (hG : RG M y G) (hW : WG G) (hl : RLk M y L) (hL : L.length ≤ 3) (hw : ∀ i, i < L.length → lW L i < nW G) (hst : ∀ i, i < L.length → M.1 (y + 22) i = nI (st i) ∧ st i ≤ 100) (hr : Rw (nW G) B (M.1 (y + 17))) (hb : Wb (nW G) B u) (hu : u ≤ 999) (hq : ∀ r' wt', Q (b2i (safeF G L sp st (B 0 1) 40 0 B)) (rT M y r' wt')) : WPi T mX7_isWell [.ref y, .int (btI sp)] M Q := by
  have h5 := nW_le G
  refine WPM.of (by decide) rfl (Nat.le_of_ble_eq_true rfl) (sg_X7_isWell_0 h7 (r_toThen h7 (fun r2 hr2 => ?_)))
  have hrw : Rw (nW G) B r2 := hr.cong h5 hr2
  refine r_cau (B := B) h7 hG.T hW (by rw [rT_t]; exact hrw) hb.2.1 ?_
  obtain ⟨d, d1, d2⟩ := hb.2.1
  have key := safe_well (L := L) (sp := sp) (st := st) hW 40 0 u B d hb (by omega) d1 d2
  rw [d2]
  refine l_well11 (st := st) (d := d) h7 hG hW hl hL hw hst 40 0 B r2 _ u (by omega) hrw hb (by omega) (fun r' wt' => ?_)
  rw [d2] at hq
  have e : (if wellF G L sp st 40 0 B 0 1 = nI d then (1 : Int32) else 0) = b2i (safeF G L sp st (nI d) 40 0 B) := by
    unfold b2i
    by_cases z : safeF G L sp st (nI d) 40 0 B = true
    · rw [if_pos (key.mp z), if_pos z]
    · rw [if_neg (fun q => z (key.mpr q)), if_neg z]
  rw [e]
  exact hq r' wt'
end
