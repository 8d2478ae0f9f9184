/-! THE REFERENCE's stories: rows in one array -/
def rN (M : Mm) (y : Nat) (r : Nat → Int32) : Mm := (fun a k => if a = y + 17 then r k else M.1 a k, M.2.1, M.2.2)
theorem rN_n {M : Mm} {y : Nat} {r : Nat → Int32} : (rN M y r).1 (y + 17) = r := by funext k; simp [rN]
theorem rN_o {M : Mm} {y a : Nat} {r : Nat → Int32} (h : a ≠ y + 17) : (rN M y r).1 a = M.1 a := by funext k; simp [rN, h]
theorem rN_s {M : Mm} {y k : Nat} {r : Nat → Int32} {v : Int32} : sI (rN M y r) (y + 17) k v = rN M y (upd r k v) := by
  refine Prod.ext ?_ rfl
  funext a l
  simp only [sI, rN, upd]
  grind
theorem rN_self {M : Mm} {y : Nat} : rN M y (M.1 (y + 17)) = M := by
  refine Prod.ext ?_ rfl
  funext a l
  simp only [rN]
  grind
theorem ixk (k i : Nat) : ((32 : Int32) + 31 * nI k) + nI i = nI (32 + 31 * k + i) := by
  rw [show (31 : Int32) * nI k = nI (31 * k) from pk_mul 31 k, show (32 : Int32) + nI (31 * k) = nI (32 + 31 * k) from nI_add 32 _, nI_add]
theorem l_know58 {T : Th} {M : Mm} {y kn : Nat} {r0 : Nat → Int32} {Q : Mm → Prop} (h7 : isX7 T y) (hkn : kn < 10)
    (hq : ∀ r, r 31 = nI (kn + 1) → (∀ k, k < 31 → r (32 + 31 * kn + k) = r0 k) → (∀ j, j ≠ 31 → (j < 32 + 31 * kn ∨ 32 + 31 * kn + 31 ≤ j) → r j = r0 j) → Q (rN M y r)) :
    ∀ (n i : Nat) (r : Nat → Int32), i + n = 31 → r 31 = nI kn → (∀ k, k < i → r (32 + 31 * kn + k) = r0 k) → (∀ j, (j < 32 + 31 * kn ∨ 32 + 31 * kn + i ≤ j) → r j = r0 j) → WP T mX7_know 58 [(0, .ref y), (1, .int (nI i))] [] (rN M y r) (qv Q) := by
  intro n
  induction n with
  | zero =>
    intro i r hi h31 h1 h2
    refine sg_X7_know_58 h7 ⟨fun _ => ?_, fun z => absurd (nI_le (a := 31) (by omega) (by omega)) z⟩
    rw [rN_n, h31, nI_1]
    simp only [forall_eq, rN_s]
    refine hq _ pk_us (fun k hk => ?_) (fun j hj hj2 => ?_)
    · rw [upd_nm _ _ (by omega)]; exact h1 k (by omega)
    · rw [upd_nm _ _ hj]; exact h2 j (by omega)
  | succ n ih =>
    intro i r hi h31 h1 h2
    refine sg_X7_know_58 h7 ⟨fun z => absurd z (nI_ge (b := 31) (by omega) (by omega)), fun _ => ⟨vp_nI (by omega) (by decide), ?_⟩⟩
    rw [rN_n, h31, ixk, cl_nI (by omega), cl_nI (by omega), nI_1]
    simp only [forall_eq, rN_s]
    refine ⟨vp_nI (by omega) (by decide), ih (i + 1) _ (by omega) ?_ (fun k hk => ?_) (fun j hj => ?_)⟩
    · rw [upd_nm _ _ (by omega)]; exact h31
    · by_cases e : k = i
      · subst e; rw [pk_us]; exact h2 k (by omega)
      · rw [upd_nm _ _ (by omega)]; exact h1 k (by omega)
    · rw [upd_nm _ _ (by omega)]; exact h2 j (by omega)
theorem l_know14 {T : Th} {M : Mm} {y : Nat} {r0 : Nat → Int32} {Q : Mm → Prop} (h7 : isX7 T y) (h10 : r0 31 = nI 10)
    (hq : ∀ r, r 31 = nI 9 → (∀ k, k < 279 → r (32 + k) = r0 (63 + k)) → (∀ j, j ≠ 31 → (j < 32 ∨ 311 ≤ j) → r j = r0 j) → WP T mX7_know 58 [(0, .ref y), (1, .int (nI 0))] [] (rN M y r) (qv Q)) :
    ∀ (n i : Nat) (r : Nat → Int32), i + n = 279 → (∀ k, k < i → r (32 + k) = r0 (63 + k)) → (∀ j, (j < 32 ∨ 32 + i ≤ j) → r j = r0 j) → WP T mX7_know 14 [(0, .ref y), (1, .int (nI i))] [] (rN M y r) (qv Q) := by
  intro n
  induction n with
  | zero =>
    intro i r hi h1 h2
    refine sg_X7_know_14 h7 ⟨fun _ => ?_, fun z => absurd (nI_le (a := 279) (by omega) (by omega)) z⟩
    rw [rN_n, h2 31 (by omega), h10]
    simp only [forall_eq, rN_s]
    refine hq _ ?_ (fun k hk => ?_) (fun j hj hj2 => ?_)
    · rw [pk_us]; decide
    · rw [upd_nm _ _ (by omega)]; exact h1 k (by omega)
    · rw [upd_nm _ _ hj]; exact h2 j (by omega)
  | succ n ih =>
    intro i r hi h1 h2
    refine sg_X7_know_14 h7 ⟨fun z => absurd z (nI_ge (b := 279) (by omega) (by omega)), fun _ => ?_⟩
    rw [show (63 : Int32) + nI i = nI (63 + i) from nI_add 63 i, show (32 : Int32) + nI i = nI (32 + i) from nI_add 32 i, cl_nI (by omega), cl_nI (by omega), nI_1, rN_n]
    simp only [forall_eq, rN_s]
    refine ⟨vp_nI (by omega) (by decide), vp_nI (by omega) (by decide), ih (i + 1) _ (by omega) (fun k hk => ?_) (fun j hj => ?_)⟩
    · by_cases e : k = i
      · subst e; rw [pk_us]; exact h2 _ (by omega)
      · rw [upd_nm _ _ (by omega)]; exact h1 k (by omega)
    · rw [upd_nm _ _ (by omega)]; exact h2 j (by omega)
/-- what know() does to the rows -/
def KnR (kn : Nat) (r0 r : Nat → Int32) : Prop := (∀ k, k < 31 → r k = r0 k) ∧ (∀ j, 342 ≤ j → r j = r0 j) ∧
  (kn < 10 → r 31 = nI (kn + 1) ∧ (∀ i, i < kn → ∀ k, k < 31 → r (32 + 31 * i + k) = r0 (32 + 31 * i + k)) ∧ ∀ k, k < 31 → r (32 + 31 * kn + k) = r0 k) ∧
  (kn = 10 → r 31 = nI 10 ∧ (∀ i, i < 9 → ∀ k, k < 31 → r (32 + 31 * i + k) = r0 (32 + 31 * (i + 1) + k)) ∧ ∀ k, k < 31 → r (32 + 31 * 9 + k) = r0 k)
theorem r_know {T : Th} {M : Mm} {y kn : Nat} {Q : Mm → Prop} (h7 : isX7 T y) (hkn : kn ≤ 10) (h31 : M.1 (y + 17) 31 = nI kn) (hq : ∀ r, KnR kn (M.1 (y + 17)) r → Q (rN M y r)) : WPv T mX7_know [.ref y] M Q := by
  refine WPM.of (by decide) rfl (Nat.le_of_ble_eq_true rfl) (sg_X7_know_0 h7 ?_)
  rw [h31]
  by_cases hk : kn < 10
  · refine ⟨fun _ => ?_, fun z => absurd ((nI_eq (b := 10) (by omega) (by omega)).mp z) (by omega)⟩
    have h := l_know58 (M := M) (r0 := M.1 (y + 17)) h7 hk (Q := Q) (fun r a1 a2 a3 => hq r ⟨fun k hk => a3 k (by omega) (by omega), fun j hj => a3 j (by omega) (by omega), fun _ => ⟨a1, fun i hi k hk => a3 _ (by omega) (by omega), a2⟩, fun e => by omega⟩) 31 0 (M.1 (y + 17)) (by omega) h31 (fun k hk => by omega) (fun _ _ => rfl)
    rw [rN_self] at h
    exact h
  · have e : kn = 10 := by omega
    refine ⟨fun z => absurd (by rw [e]; rfl) z, fun _ => ?_⟩
    have h := l_know14 (M := M) (r0 := M.1 (y + 17)) (Q := Q) h7 (by rw [h31, e]) (fun r1 b1 b2 b3 => l_know58 (r0 := r1) h7 (kn := 9) (by omega) (fun r a1 a2 a3 => hq r ⟨fun k hk => ?_, fun j hj => ?_, fun e2 => by omega, fun _ => ⟨a1, fun i hi k hk => ?_, fun k hk => ?_⟩⟩) 31 0 r1 (by omega) b1 (fun k hk => by omega) (fun _ _ => rfl)) 279 0 (M.1 (y + 17)) (by omega) (fun k hk => by omega) (fun _ _ => rfl)
    · rw [rN_self] at h
      exact h
    · rw [a3 k (by omega) (by omega), b3 k (by omega) (by omega)]
    · rw [a3 j (by omega) (by omega), b3 j (by omega) (by omega)]
    · rw [a3 _ (by omega) (by omega), show 32 + 31 * i + k = 32 + (31 * i + k) by omega, b2 _ (by omega), show 63 + (31 * i + k) = 32 + 31 * (i + 1) + k by omega]
    · rw [a2 k hk, b3 k (by omega) (by omega)]
theorem RStt.rem {n : Nat} {r0 r : Nat → Int32} {S S' : Stt} (hn : n ≤ 5) (h : RStt n r0 S) (hk : KnR S.2.1 r0 r) (hS : S.2.1 ≤ 10) (hr : Rem S S') : RStt n r S' := by
  obtain ⟨h1, h2, h3⟩ := h
  obtain ⟨k1, k2, k3, k4⟩ := hk
  obtain ⟨e1, e2, e3, e4⟩ := hr
  refine ⟨by rw [e1]; exact h1.cong hn k1, ?_, fun i hi => ?_⟩
  · by_cases hlt : S.2.1 < 10
    · rw [(e2 hlt).1]; exact (k3 hlt).1
    · rw [(e3 (by omega)).1]; exact (k4 (by omega)).1
  · by_cases hlt : S.2.1 < 10
    · have e5 := (e2 hlt).1
      by_cases hl : i < S.2.1
      · rw [(e2 hlt).2 i hl]
        exact (h3 i hl).cong hn (fun k hk => (k3 hlt).2.1 i hl k hk)
      · have : i = S.2.1 := by omega
        subst this
        rw [e5, Nat.add_sub_cancel] at e4
        exact (h1.ag hn e4).cong hn (fun k hk => (k3 hlt).2.2 k hk)
    · have h10 : S.2.1 = 10 := by omega
      have e5 := (e3 h10).1
      by_cases hl : i < 9
      · rw [(e3 h10).2 i hl]
        exact (h3 (i + 1) (by omega)).cong hn (fun k hk => (k4 h10).2.1 i hl k hk)
      · have : i = 9 := by omega
        subst this
        rw [e5] at e4
        exact (h1.ag hn e4).cong hn (fun k hk => (k4 h10).2.2 k hk)
theorem WSt.rem {n : Nat} {S S' : Stt} (hn : n ≤ 5) (h : WSt n S) (hr : Rem S S') : WSt n S' := by
  obtain ⟨h1, h2, h3⟩ := h
  obtain ⟨e1, e2, e3, e4⟩ := hr
  by_cases hlt : S.2.1 < 10
  · have e5 := (e2 hlt).1
    refine ⟨by omega, by rw [e1]; exact h2, fun i hi => ?_⟩
    by_cases hl : i < S.2.1
    · rw [(e2 hlt).2 i hl]; exact h3 i hl
    · have : i = S.2.1 := by omega
      subst this
      rw [e5, Nat.add_sub_cancel] at e4
      exact h2.ag hn e4
  · have h10 : S.2.1 = 10 := by omega
    have e5 := (e3 h10).1
    refine ⟨by omega, by rw [e1]; exact h2, fun i hi => ?_⟩
    by_cases hl : i < 9
    · rw [(e3 h10).2 i hl]; exact h3 (i + 1) (by omega)
    · have : i = 9 := by omega
      subst this
      rw [e5] at e4
      exact h2.ag hn e4
theorem l_undo {T : Th} {M : Mm} {y kn : Nat} {r0 : Nat → Int32} {Q : Int32 → Mm → Prop} (h7 : isX7 T y) (hkn : kn < 10)
    (hq : ∀ r, r 31 = nI kn → (∀ k, k < 31 → r k = r0 (32 + 31 * kn + k)) → (∀ j, 32 ≤ j → r j = r0 j) → Q (nI kn) (rN M y r)) :
    ∀ (n i : Nat) (r : Nat → Int32), i + n = 31 → r 31 = nI kn → (∀ k, k < i → r k = r0 (32 + 31 * kn + k)) → (∀ j, 32 ≤ j → r j = r0 j) → WP T mX7_undo 26 [(0, .ref y), (1, .int (nI i))] [] (rN M y r) (qi Q) := by
  intro n
  induction n with
  | zero =>
    intro i r hi h31 h1 h2
    refine sg_X7_undo_26 h7 ⟨fun _ => ?_, fun z => absurd (nI_le (a := 31) (by omega) (by omega)) z⟩
    rw [rN_n, h31]
    exact hq r h31 (fun k hk => h1 k (by omega)) h2
  | succ n ih =>
    intro i r hi h31 h1 h2
    refine sg_X7_undo_26 h7 ⟨fun z => absurd z (nI_ge (b := 31) (by omega) (by omega)), fun _ => ?_⟩
    rw [rN_n, h31, ixk, cl_nI (by omega), cl_nI (by omega), nI_1]
    simp only [forall_eq, rN_s]
    refine ⟨vp_nI (by omega) (by decide), vp_nI (by omega) (by decide), ih (i + 1) _ (by omega) ?_ (fun k hk => ?_) (fun j hj => ?_)⟩
    · rw [upd_nm _ _ (by omega)]; exact h31
    · by_cases e : k = i
      · subst e; rw [pk_us]; exact h2 _ (by omega)
      · rw [upd_nm _ _ e]; exact h1 k (by omega)
    · rw [upd_nm _ _ (by omega)]; exact h2 j hj
theorem r_undo {T : Th} {M : Mm} {y kn : Nat} {Q : Int32 → Mm → Prop} (h7 : isX7 T y) (hkn : kn ≤ 10) (h31 : M.1 (y + 17) 31 = nI kn) (hq0 : kn = 0 → Q (-2) M)
    (hq : 0 < kn → ∀ r, r 31 = nI (kn - 1) → (∀ k, k < 31 → r k = M.1 (y + 17) (32 + 31 * (kn - 1) + k)) → (∀ j, 32 ≤ j → r j = M.1 (y + 17) j) → Q (nI (kn - 1)) (rN M y r)) : WPi T mX7_undo [.ref y] M Q := by
  refine WPM.of (by decide) rfl (Nat.le_of_ble_eq_true rfl) (sg_X7_undo_0 h7 ?_)
  rw [h31]
  by_cases h0 : kn = 0
  · exact ⟨fun z => absurd (by rw [h0]; rfl) z, fun _ => hq0 h0⟩
  · have hm1 : nI kn - 1 = nI (kn - 1) := by have := nI_pred (kn - 1); rw [Nat.sub_add_cancel (by omega)] at this; exact this
    refine ⟨fun _ => ?_, fun z => absurd ((nI_eq (b := 0) (by omega) (by omega)).mp z) h0⟩
    rw [hm1]
    intro M1 e
    have e2 : M1 = rN M y (upd (M.1 (y + 17)) 31 (nI (kn - 1))) := by rw [e, ← rN_s, rN_self]
    rw [e2]
    refine l_undo (r0 := M.1 (y + 17)) h7 (by omega) (hq (by omega)) 31 0 _ (by omega) pk_us (fun k hk => by omega) (fun j hj => upd_nm _ _ (by omega))
theorem l_copyR {T : Th} {M : Mm} {y a b : Nat} {r0 : Nat → Int32} {Q : Mm → Prop} (h7 : isX7 T y) (ha : a ≤ 684) (hb : b ≤ 684) (hab : a + 342 ≤ b ∨ b + 342 ≤ a)
    (hq : ∀ r, (∀ k, k < 342 → r (b + k) = r0 (a + k)) → (∀ j, (j < b ∨ b + 342 ≤ j) → r j = r0 j) → Q (rN M y r)) :
    ∀ (n i : Nat) (r : Nat → Int32), i + n = 342 → (∀ k, k < i → r (b + k) = r0 (a + k)) → (∀ j, (j < b ∨ b + i ≤ j) → r j = r0 j) → WP T mX7_copy 2 [(0, .ref y), (1, .int (nI a)), (2, .int (nI b)), (3, .int (nI i))] [] (rN M y r) (qv Q) := by
  intro n
  induction n with
  | zero =>
    intro i r hi h1 h2
    refine sg_X7_copy_2 h7 ⟨fun _ => ?_, fun z => absurd (nI_le (a := 342) (by omega) (by omega)) z⟩
    exact hq r (fun k hk => h1 k (by omega)) (fun j hj => h2 j (by omega))
  | succ n ih =>
    intro i r hi h1 h2
    refine sg_X7_copy_2 h7 ⟨fun z => absurd z (nI_ge (b := 342) (by omega) (by omega)), fun _ => ?_⟩
    rw [nI_add, nI_add, cl_nI (by omega), cl_nI (by omega), nI_1, rN_n]
    simp only [forall_eq, rN_s]
    refine ⟨vp_nI (by omega) (by decide), vp_nI (by omega) (by decide), ih (i + 1) _ (by omega) (fun k hk => ?_) (fun j hj => ?_)⟩
    · by_cases e : k = i
      · subst e; rw [pk_us]; exact h2 _ (by omega)
      · rw [upd_nm _ _ (by omega)]; exact h1 k (by omega)
    · rw [upd_nm _ _ (by omega)]; exact h2 j (by omega)
theorem r_copy {T : Th} {M : Mm} {y a b : Nat} {Q : Mm → Prop} (h7 : isX7 T y) (ha : a ≤ 684) (hb : b ≤ 684) (hab : a + 342 ≤ b ∨ b + 342 ≤ a)
    (hq : ∀ r, (∀ k, k < 342 → r (b + k) = M.1 (y + 17) (a + k)) → (∀ j, (j < b ∨ b + 342 ≤ j) → r j = M.1 (y + 17) j) → Q (rN M y r)) : WPv T mX7_copy [.ref y, .int (nI a), .int (nI b)] M Q := by
  refine WPM.of (by decide) rfl (Nat.le_of_ble_eq_true rfl) (sg_X7_copy_0 h7 ?_)
  have h := l_copyR (M := M) (r0 := M.1 (y + 17)) h7 ha hb hab hq 342 0 (M.1 (y + 17)) (by omega) (fun k hk => by omega) (fun _ _ => rfl)
  rw [rN_self] at h
  exact h
theorem l_toNow {T : Th} {M : Mm} {y : Nat} {r0 : Nat → Int32} {Q : Mm → Prop} (h7 : isX7 T y)
    (hq : ∀ r, (∀ k, k < 31 → r k = M.1 (y + 18) k) → (∀ j, 31 ≤ j → r j = r0 j) → Q (rN M y r)) :
    ∀ (n i : Nat) (r : Nat → Int32), i + n = 31 → (∀ k, k < i → r k = M.1 (y + 18) k) → (∀ j, 31 ≤ j → r j = r0 j) → WP T mX7_toNow 2 [(0, .ref y), (1, .int (nI i))] [] (rN M y r) (qv Q) := by
  intro n
  induction n with
  | zero =>
    intro i r hi h1 h2
    exact sg_X7_toNow_2 h7 ⟨fun _ => hq r (fun k hk => h1 k (by omega)) h2, fun z => absurd (nI_le (a := 31) (by omega) (by omega)) z⟩
  | succ n ih =>
    intro i r hi h1 h2
    refine sg_X7_toNow_2 h7 ⟨fun z => absurd z (nI_ge (b := 31) (by omega) (by omega)), fun _ => ⟨vp_nI (by omega) (by decide), vp_nI (by omega) (by decide), ?_⟩⟩
    rw [cl_nI (by omega), nI_1, rN_o (by omega)]
    simp only [forall_eq, rN_s]
    refine ih (i + 1) _ (by omega) (fun k hk => ?_) (fun j hj => ?_)
    · by_cases e : k = i
      · subst e; exact pk_us
      · rw [upd_nm _ _ e]; exact h1 k (by omega)
    · rw [upd_nm _ _ (by omega)]; exact h2 j hj
theorem r_toNow {T : Th} {M : Mm} {y : Nat} {Q : Mm → Prop} (h7 : isX7 T y) (hq : ∀ r, (∀ k, k < 31 → r k = M.1 (y + 18) k) → (∀ j, 31 ≤ j → r j = M.1 (y + 17) j) → Q (rN M y r)) : WPv T mX7_toNow [.ref y] M Q := by
  refine WPM.of (by decide) rfl (Nat.le_of_ble_eq_true rfl) (sg_X7_toNow_0 h7 ?_)
  have h := l_toNow (M := M) (r0 := M.1 (y + 17)) h7 hq 31 0 (M.1 (y + 17)) (by omega) (fun k hk => by omega) (fun _ _ => rfl)
  rw [rN_self] at h
  exact h
theorem l_isThere {T : Th} {M : Mm} {y : Nat} {G B : Blk} {v rl : Int32} {Q : Int32 → Mm → Prop} (h0 : isX7 T y) (hG : RG M y G) (hW : WG G) (hr : Rw (nW G) B (M.1 (y + 17))) : ∀ (n i : Nat) (b : Bool), i + n = nW G → Q (b2i (b || anyF (fun w => decide (B 1 w = v ∧ B 2 w = rl)) i n)) M → WP T mX7_isThere 5 [(0, .ref y), (1, .int v), (2, .int rl), (3, .int (b2i b)), (4, .int (nI i))] [] M (qi Q) := by
  have h5 := nW_le G
  intro n
  induction n with
  | zero =>
    intro i b hi hq
    refine sg_X7_isThere_5 h0 ?_
    rw [hG.2.2.2.2.1, hW.2.1]
    refine ⟨fun _ => ⟨by cases b <;> simp [b2i], ?_⟩, fun z => absurd (nI_le (by omega) (by omega)) z⟩
    simpa [anyF] using hq
  | succ n ih =>
    intro i b hi hq
    refine sg_X7_isThere_5 h0 ?_
    obtain ⟨r1, r2, r3, r4, r5, r6⟩ := hr.2 i (by omega)
    rw [hG.2.2.2.2.1, hW.2.1, p_1, p_26, cl_nI (by omega), cl_nI (by omega), r1, r5, nI_1]
    have ih := ih (i + 1)
    simp only [forall_eq]
    simp only [anyF] at hq
    refine ⟨fun z => absurd z (nI_ge (by omega) (by omega)), fun _ => ⟨fun z => ih true (by omega) ?_, fun z => ⟨vp_nI (by omega) (by decide), fun z2 => ih false (by omega) ?_, fun z2 => ⟨vp_nI (by omega) (by decide), fun z3 => ih false (by omega) ?_, fun z3 => ih true (by omega) ?_⟩⟩⟩⟩
    all_goals (cases b <;> simp_all [b2i])
theorem r_isThere {T : Th} {M : Mm} {y : Nat} {G B : Blk} {v rl : Int32} {Q : Int32 → Mm → Prop} (h0 : isX7 T y) (hG : RG M y G) (hW : WG G) (hr : Rw (nW G) B (M.1 (y + 17))) (hq : Q (b2i (takenB G B rl v)) M) : WPi T mX7_isThere [.ref y, .int v, .int rl] M Q :=
  WPM.of (by decide) rfl (Nat.le_of_ble_eq_true rfl) (sg_X7_isThere_0 h0 (l_isThere h0 hG hW hr (nW G) 0 false (by omega) (by simpa [takenB] using hq)))
/-- the rows change, all else stays -/
theorem RI.rows {y : Nat} {M N : Mm} {G F : Blk} {S S' : Stt} {I I' : Nat → Bool × Stt} {tn : Nat} {tb : Nat → Int32} {tr : Int64} (h : RI y M G F S I tn tb tr) (o1 : ∀ c, 1 ≤ c → c ≤ 16 → N.1 (y + c) = M.1 (y + c)) (o2 : N.1 y 2 = M.1 y 2) (o3 : N.2.1 y 0 = M.2.1 y 0) (h4 : RStt (nW G) (N.1 (y + 17)) S') (h5 : ∀ k, k < 2 → N.1 (y + 19) k = b2i (I' k).1 ∧ ((I' k).1 = true → RStt (nW G) (fun j => N.1 (y + 17) (342 * (1 + k) + j)) (I' k).2)) : RI y N G F S' I' tn tb tr := by
  obtain ⟨h1, h2, h3, -, -, h6, h8⟩ := h
  unfold RI RG
  rw [o3, o2, o1 1 (by decide) (by decide), o1 2 (by decide) (by decide), o1 3 (by decide) (by decide), o1 4 (by decide) (by decide), o1 5 (by decide) (by decide), o1 7 (by decide) (by decide), o1 9 (by decide) (by decide), o1 16 (by decide) (by decide), o1 6 (by decide) (by decide), o1 8 (by decide) (by decide), o1 12 (by decide) (by decide), o1 10 (by decide) (by decide), o1 13 (by decide) (by decide)]
  exact ⟨h1, h2, h3, h4, h5, h6, h8⟩
theorem RStt.cong {n : Nat} {r r' : Nat → Int32} {S : Stt} (hn : n ≤ 5) (hS : S.2.1 ≤ 10) (h : RStt n r S) (e : ∀ j, j < 342 → r' j = r j) : RStt n r' S :=
  ⟨h.1.cong hn (fun k hk => e k (by omega)), by rw [e 31 (by omega)]; exact h.2.1, fun i hi => (h.2.2 i hi).cong hn (fun k hk => e _ (by omega))⟩
theorem RStt.ag {n : Nat} {r : Nat → Int32} {S S' : Stt} (hn : n ≤ 5) (h : RStt n r S) (a : SAg S S') : RStt n r S' :=
  ⟨h.1.ag hn a.1, by rw [a.2.1]; exact h.2.1, fun i hi => by rw [a.2.1] at hi; exact (h.2.2 i hi).ag hn (a.2.2 i hi)⟩
theorem WSt.ag {n : Nat} {S S' : Stt} (hn : n ≤ 5) (h : WSt n S) (a : SAg S S') : WSt n S' :=
  ⟨by rw [a.2.1]; exact h.1, h.2.1.ag hn a.1, fun i hi => by rw [a.2.1] at hi; exact (h.2.2 i hi).ag hn (a.2.2 i hi)⟩
