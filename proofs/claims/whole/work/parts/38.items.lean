/-! THE CLASS's ITEMS -/
def IPost (M : Mm) (d p tn : Nat) (D : Blk) (s : Nat ⊕ (Blk × Nat)) (Q : Mm → Prop) : Prop :=
  (∀ D' a' r', s = .inr (D', a') → COk tn r' a' → Q (cP M d p D' r')) ∧ ∀ f D' r', s = .inl f → CBad tn r' f → ZK D D' → Q (cP M d p D' r')
/-- the draft's numbers -/
def WD0 (D : Blk) : Prop := (∃ sz, 4 ≤ sz ∧ sz ≤ 12 ∧ D 0 0 = nI sz) ∧ (D 0 3 = 0 ∨ D 0 3 = 1) ∧ D 0 6 = nI (nW D) ∧ D 0 7 = nI (nP D)
section
variable {T : Th} {M : Mm} {d p tn : Nat} {tb : Nat → Int32} {D : Blk} {r : Nat → Int32} {Q : Mm → Prop} {a f0 : Nat}
theorem COk.z (h : COk tn r a) : COk tn (upd r 6 0) a := ⟨by rw [upd_nm _ _ (by decide)]; exact h.1, upd_s _ _ _, by rw [upd_nm _ _ (by decide)]; exact h.2.2⟩
theorem COk.b (h : COk tn r a) (h4 : r 4 = nI f0 ∧ f0 ≤ tn) : CBad tn (upd r 6 1) f0 := ⟨by rw [upd_nm _ _ (by decide)]; exact h.1, upd_s _ _ _, by rw [upd_nm _ _ (by decide)]; exact h4.1, h4.2⟩
theorem c_tellBridge (h4 : isX4 T p) (h1 : isX1 T d) (hd : p + 1 < d) (htn : tn ≤ 200) (ht : ∀ k, k < tn → M.1 (p + 1) k = tb k) (ha : a ≤ tn) (h : COk tn r a) (hf : r 4 = nI f0 ∧ f0 ≤ tn)
    (hq : IPost M d p tn D (if ¬ D 0 4 = -9 then .inl f0 else match rdE tb tn a 0 (D 0 0 - 1) with
      | .inl f => .inl f
      | .inr (v, a1) => .inr (ub D 0 4 v, a1)) Q) : WPv T mX4_tellBridge [.ref p, .ref d] (cP M d p D r) Q := by
  refine WPM.of (by decide) rfl (Nat.le_of_ble_eq_true rfl) (sg_X4_tellBridge_0 h4 h1 ?_)
  rw [cP_d0 (by omega)]
  refine ⟨fun z => ?_, fun z => ?_⟩
  · rw [if_neg (fun q => q z)] at hq
    rw [cP_sp]
    simp only [forall_eq]
    rw [cP_d0 (by omega)]
    refine c_num h4 hd htn ht ha h.z (fun v a' r' e c1 c4 => ?_) (fun f r' e c1 => ?_)
    · rw [e] at hq; rw [cP_sd0 (by omega)]; exact hq.1 _ _ _ rfl c1
    · rw [e] at hq; rw [cP_sd0 (by omega)]; exact hq.2 _ _ _ rfl c1 ((ZK.rf D).u (by decide))
  · rw [if_pos z] at hq
    rw [cP_sp]
    simp only [forall_eq]
    refine c_numB h4 (h.b hf) ?_
    rw [cP_sd0 (by omega)]
    exact hq.2 _ _ _ rfl (h.b hf) ((ZK.rf D).u (by decide))
theorem c_tellCost (h4 : isX4 T p) (h1 : isX1 T d) (hd : p + 1 < d) (htn : tn ≤ 200) (ht : ∀ k, k < tn → M.1 (p + 1) k = tb k) (ha : a ≤ tn) (h : COk tn r a) (hW : WD0 D)
    (hq : IPost M d p tn D (match rdE tb tn a 0 (D 0 0 - 1) with
      | .inl f => .inl f
      | .inr (v, a1) => match rdE tb tn a1 1 4 with
        | .inl f => .inl f
        | .inr (u, a2) => .inr (ub D 1 v.toNatClampNeg u, a2)) Q) : WPv T mX4_tellCost [.ref p, .ref d] (cP M d p D r) Q := by
  refine WPM.of (by decide) rfl (Nat.le_of_ble_eq_true rfl) (sg_X4_tellCost_0 h4 h1 ?_)
  rw [cP_d0 (by omega)]
  have fin : ∀ (v u : Int32) (f : Nat) (r' : Nat → Int32), (∀ D', ZK D D' → Q (cP M d p D' r')) → WPi T mX1_hasPlace [.ref d, .int v] (cP M d p D r') (fun v6 M5 => (v6 = 0 → Q M5) ∧ (¬ v6 = 0 → vp_in v 12 ∧ (∀ M7 : Mm, M7 = sI M5 (d + 1) v.toNatClampNeg u → Q M7))) := by
    intro v u f r' hz
    refine c_hasPlace h1 (cP_G (by omega)) ?_
    simp only [forall_eq]
    cases hp : hasPl D v
    · exact ⟨fun _ => hz D (ZK.rf D), fun z => absurd rfl z⟩
    · obtain ⟨k, k1, k2⟩ := hasPl_nI hp
      rw [cP_sd 1 (by decide) (by omega), k2, cl_nI (by omega)]
      exact ⟨fun z => absurd z (by decide), fun _ => ⟨vp_nI k1 (by decide), hz _ ((ZK.rf D).u (by decide))⟩⟩
  refine c_num h4 hd htn ht ha h (fun v a' r' e c1 c4 => ?_) (fun f r' e c1 => ?_)
  · rw [e] at hq
    have i1 := rdE_in ha e
    refine c_num h4 hd htn ht i1.2.2.2 c1 (fun u a2 r2 e2 c2 c5 => ?_) (fun f r2 e2 c2 => ?_)
    · simp only [e2] at hq
      refine c_hasPlace h1 (cP_G (by omega)) ?_
      obtain ⟨sz, s1, s2, s3⟩ := hW.1
      have hp : hasPl D v = true := by
        unfold hasPl
        refine decide_eq_true ?_
        have := i1.1
        have q2 := i1.2.1
        rw [s3] at q2 ⊢
        rw [show nI sz - 1 = nI (sz - 1) from by obtain ⟨k, rfl⟩ : ∃ k, sz = k + 1 := ⟨sz - 1, by omega⟩; exact nI_pred k] at q2
        obtain ⟨k, k1, k2⟩ := nI_of2 (x := v) (M := nI (sz - 1)) (n := sz - 1) (nI_toInt (by omega)) (Int32.not_lt.mpr this) q2
        rw [k2]
        exact ⟨nI_pos' (by omega), nI_lt (by omega) (by omega), nI_lt (b := 12) (by omega) (by omega)⟩
      rw [hp]
      obtain ⟨k, k1, k2⟩ := hasPl_nI hp
      refine ⟨fun z => absurd z (by decide), fun _ => ⟨by rw [k2]; exact vp_nI k1 (by decide), ?_⟩⟩
      simp only [forall_eq]
      rw [cP_sd 1 (by decide) (by omega)]
      exact hq.1 _ _ _ rfl c2
    · simp only [e2] at hq
      exact fin v 1 f r2 (fun D' hz => hq.2 _ _ _ rfl c2 hz)
  · rw [e] at hq
    refine c_numB h4 c1 ?_
    exact fin 0 1 f r' (fun D' hz => hq.2 _ _ _ rfl c1 hz)
theorem c_tellRing {k : Nat} (h4 : isX4 T p) (h1 : isX1 T d) (hd : p + 1 < d) (htn : tn ≤ 200) (ht : ∀ k, k < tn → M.1 (p + 1) k = tb k) (ha : a ≤ tn) (h : COk tn r a) (hf : r 4 = nI f0 ∧ f0 ≤ tn) (hk : k ≤ 300)
    (hq : IPost M d p tn D (if 0 < k then .inl f0 else match rdE tb tn a 4 12 with
      | .inl f => .inl f
      | .inr (v, a1) => .inr (ub D 0 0 v, a1)) Q) : WPv T mX4_tellRing [.ref p, .ref d, .int (nI k)] (cP M d p D r) Q := by
  refine WPM.of (by decide) rfl (Nat.le_of_ble_eq_true rfl) (sg_X4_tellRing_0 h4 h1 ?_)
  have hz : nI k ≤ 0 ↔ ¬ 0 < k := by rw [show (0 : Int32) = nI 0 from rfl, nI_leI (by omega) (by omega)]; omega
  rw [hz, cP_sp, cP_sp]
  simp only [forall_eq]
  refine ⟨fun z => ?_, fun z => ?_⟩
  · rw [if_neg z] at hq
    refine c_num h4 hd htn ht ha h.z (fun v a' r' e c1 c4 => ?_) (fun f r' e c1 => ?_)
    · rw [e] at hq; rw [cP_sd0 (by omega)]; exact hq.1 _ _ _ rfl c1
    · rw [e] at hq; rw [cP_sd0 (by omega)]; exact hq.2 _ _ _ rfl c1 ((ZK.rf D).u (by decide))
  · rw [if_pos (Decidable.not_not.mp z)] at hq
    refine c_numB h4 (h.b hf) ?_
    rw [cP_sd0 (by omega)]
    exact hq.2 _ _ _ rfl (h.b hf) ((ZK.rf D).u (by decide))
theorem c_tellSun (h4 : isX4 T p) (h1 : isX1 T d) (hd : p + 1 < d) (htn : tn ≤ 200) (ht : ∀ k, k < tn → M.1 (p + 1) k = tb k) (ha : a ≤ tn) (h : COk tn r a) (hf : r 4 = nI f0 ∧ f0 ≤ tn) (hW : WD0 D)
    (hq : IPost M d p tn D (if ¬ D 0 3 = 0 then .inl f0 else match rdE tb tn a 1 9 with
      | .inl f => .inl f
      | .inr (v, a1) => match rdE tb tn a1 1 20 with
        | .inl f => .inl f
        | .inr (u, a2) => .inr (ub (ub (ub D 0 3 1) 0 1 v) 0 2 u, a2)) Q) : WPv T mX4_tellSun [.ref p, .ref d] (cP M d p D r) Q := by
  refine WPM.of (by decide) rfl (Nat.le_of_ble_eq_true rfl) (sg_X4_tellSun_0 h4 h1 ?_)
  rw [cP_d0 (by omega), cP_sp]
  simp only [forall_eq]
  rw [cP_sd0 (by omega)]
  refine ⟨hW.2.1, ?_⟩
  have zk : ∀ u v : Int32, ZK D (ub (ub (ub D 0 3 1) 0 1 v) 0 2 u) := fun u v => (((ZK.rf D).u (by decide)).u (by decide)).u (by decide)
  rcases hW.2.1 with z | z
  · rw [if_neg (fun q => q z)] at hq
    rw [z]
    refine c_num h4 hd htn ht ha h.z (fun v a' r' e c1 c4 => ?_) (fun f r' e c1 => ?_)
    · rw [e] at hq
      have i1 := rdE_in ha e
      rw [cP_sd0 (by omega)]
      refine c_num h4 hd htn ht i1.2.2.2 c1 (fun u a2 r2 e2 c2 c5 => ?_) (fun f r2 e2 c2 => ?_)
      · simp only [e2] at hq; rw [cP_sd0 (by omega)]; exact hq.1 _ _ _ rfl c2
      · simp only [e2] at hq; rw [cP_sd0 (by omega)]; exact hq.2 _ _ _ rfl c2 (zk _ _)
    · rw [e] at hq
      rw [cP_sd0 (by omega)]
      refine c_numB h4 c1 ?_
      rw [cP_sd0 (by omega)]
      exact hq.2 _ _ _ rfl c1 (zk _ _)
  · rw [if_pos (by rw [z]; decide)] at hq
    rw [z]
    refine c_numB h4 (h.b hf) ?_
    rw [cP_sd0 (by omega)]
    refine c_numB h4 (h.b hf) ?_
    rw [cP_sd0 (by omega)]
    exact hq.2 _ _ _ rfl (h.b hf) (zk _ _)
theorem c_tellPoints (h4 : isX4 T p) (h1 : isX1 T d) (hd : p + 1 < d) (htn : tn ≤ 200) (ht : ∀ k, k < tn → M.1 (p + 1) k = tb k) (ha : a ≤ tn) (h : COk tn r a)
    (hq : IPost M d p tn D (match rdE tb tn a 0 (D 0 0 - 1) with
      | .inl f => .inl f
      | .inr (v, a1) => .inr (ub D 0 5 (D 0 5 ||| (1 <<< (v &&& 31))), a1)) Q) : WPi T mX4_readNumber [.ref p, .int 0, .int (((cP M d p D r).1 d 0) - 1)] (cP M d p D r) (fun v2 M1 => ∀ M3 : Mm, M3 = sI M1 d 5 (((cP M d p D r).1 d 5) ||| (1 <<< (v2 &&& 31))) → Q M3) := by
  rw [cP_d0 (by omega)]
  refine c_num h4 hd htn ht ha h (fun v a' r' e c1 c4 => ?_) (fun f r' e c1 => ?_)
  · rw [e] at hq; rw [cP_sd0 (by omega)]; simp only [forall_eq]; exact hq.1 _ _ _ rfl c1
  · rw [e] at hq; rw [cP_sd0 (by omega)]; simp only [forall_eq]; exact hq.2 _ _ _ rfl c1 ((ZK.rf D).u (by decide))
theorem c_addPair {v u : Int32} {Q : Mm → Prop} (h1 : isX1 T d) (hd : p + 1 < d) (hW : WD0 D) (hlt : ¬ 4 ≤ D 0 7) (hq : Q (cP M d p (addP D v u) r)) : WPv T mX1_addPair [.ref d, .int v, .int u] (cP M d p D r) Q := by
  have h7 := hW.2.2.2
  have hn : nP D < 4 := by
    have h4 : nP D ≤ 4 := lim_le _ _
    rw [h7, show (4 : Int32) = nI 4 from rfl, nI_leI (by omega) (by omega)] at hlt; omega
  refine WPM.of (by decide) rfl (Nat.le_of_ble_eq_true rfl) (sg_X1_addPair_0 h1 ?_)
  rw [cP_d0 (by omega), h7, cl_nI (by omega)]
  refine ⟨fun z => absurd z (nI_pos (by omega)), fun _ => ⟨fun _ => ⟨vp_nI hn (by decide), ?_⟩, fun z => absurd (nI_lt (b := 4) hn (by omega)) z⟩⟩
  rw [cP_sd 4 (by decide) (by omega)]
  simp only [forall_eq]
  rw [cP_d0 (by omega), show ub D 4 (nP D) v 0 7 = nI (nP D) by rw [ub_n _ _ (by omega)]; exact h7, cl_nI (by omega), cP_sd 5 (by decide) (by omega), cP_d0 (by omega), cP_sd0 (by omega)]
  refine ⟨vp_nI hn (by decide), ?_⟩
  have e : ub (ub D 4 (nP D) v) 5 (nP D) u 0 7 = D 0 7 := by rw [ub_n _ _ (by omega), ub_n _ _ (by omega)]
  rw [e]
  exact hq
theorem c_tellPair (h4 : isX4 T p) (h1 : isX1 T d) (hd : p + 1 < d) (htn : tn ≤ 200) (ht : ∀ k, k < tn → M.1 (p + 1) k = tb k) (ha : a ≤ tn) (h : COk tn r a) (hf : r 4 = nI f0 ∧ f0 ≤ tn) (hW : WD0 D)
    (hq : IPost M d p tn D (if 4 ≤ D 0 7 then .inl f0 else match rdE tb tn a 0 (D 0 6 - 1) with
      | .inl f => .inl f
      | .inr (v, a1) => match rdE tb tn a1 0 (D 0 6 - 1) with
        | .inl f => .inl f
        | .inr (u, a2) => if v = u then .inl (tkO tb tn a1).2.1 else .inr (addP D v u, a2)) Q) : WPv T mX4_tellPair [.ref p, .ref d] (cP M d p D r) Q := by
  refine WPM.of (by decide) rfl (Nat.le_of_ble_eq_true rfl) (sg_X4_tellPair_0 h4 h1 ?_)
  rw [cP_d0 (by omega)]
  have bd : ∀ (f : Nat) (r' : Nat → Int32) (v u : Int32), CBad tn r' f → Q (cP M d p D r') → ((¬ ((cP M d p D r').1 p 6) = 0 → (¬ ((cP M d p D r').1 p 6) = 0 → Q (cP M d p D r')) ∧ (((cP M d p D r').1 p 6) = 0 → WPv T mX1_addPair [.ref d, .int v, .int u] (cP M d p D r') (fun M6 => Q M6))) ∧ (((cP M d p D r').1 p 6) = 0 → (¬ v = u → ∀ M6 : Mm, M6 = sI (cP M d p D r') p 6 0 → (¬ (M6.1 p 6) = 0 → Q M6) ∧ ((M6.1 p 6) = 0 → WPv T mX1_addPair [.ref d, .int v, .int u] M6 (fun M7 => Q M7))) ∧ (v = u → ∀ M6 : Mm, M6 = sI (cP M d p D r') p 6 1 → (¬ (M6.1 p 6) = 0 → Q M6) ∧ ((M6.1 p 6) = 0 → WPv T mX1_addPair [.ref d, .int v, .int u] M6 (fun M7 => Q M7))))) := by
    intro f r' v u hb hQ
    rw [cP_p, hb.2.1]
    exact ⟨fun _ => ⟨fun _ => hQ, fun z => absurd z (by decide)⟩, fun z => absurd z (by decide)⟩
  refine ⟨fun z => sg_X4_tellPair_14 h4 h1 h4 ⟨Or.inl rfl, ?_⟩, fun z => sg_X4_tellPair_14 h4 h1 h4 ⟨Or.inr rfl, ?_⟩⟩
  · have z' : ¬ 4 ≤ D 0 7 := Int32.not_le.mpr z
    rw [if_neg z'] at hq
    rw [cP_sp]
    simp only [forall_eq]
    rw [cP_d0 (by omega)]
    refine c_num h4 hd htn ht ha h.z (fun v a' r' e c1 c4 => ?_) (fun f r' e c1 => ?_)
    · rw [e] at hq
      have i1 := rdE_in ha e
      rw [cP_d0 (by omega)]
      refine c_num h4 hd htn ht i1.2.2.2 c1 (fun u a2 r2 e2 c2 c5 => ?_) (fun f r2 e2 c2 => ?_)
      · simp only [e2] at hq
        rw [cP_p, c2.2.1, cP_sp, cP_sp]
        refine ⟨fun z => absurd rfl z, fun _ => ⟨fun z2 => ?_, fun z2 => ?_⟩⟩
        · rw [if_neg z2] at hq
          rw [cP_p, upd_s]
          exact ⟨fun z => absurd rfl z, fun _ => c_addPair h1 hd hW z' (hq.1 _ _ _ rfl c2.z)⟩
        · rw [if_pos z2] at hq
          rw [cP_p, upd_s]
          exact ⟨fun _ => hq.2 _ _ _ rfl (c2.b c5) (ZK.rf D), fun z => absurd z (by decide)⟩
      · simp only [e2] at hq
        have := bd f r2 v 0 c2 (hq.2 _ _ _ rfl c2 (ZK.rf D))
        simp only [forall_eq] at this
        exact this
    · rw [e] at hq
      refine c_numB h4 c1 ?_
      rw [cP_p, c1.2.1]
      exact ⟨fun _ => ⟨fun _ => hq.2 _ _ _ rfl c1 (ZK.rf D), fun z => absurd z (by decide)⟩, fun z => absurd z (by decide)⟩
  · rw [if_pos (Int32.not_lt.mp z)] at hq
    rw [cP_sp]
    simp only [forall_eq]
    refine c_numB h4 (h.b hf) (c_numB h4 (h.b hf) ?_)
    have hb := h.b hf
    rw [cP_p, hb.2.1]
    exact ⟨fun _ => ⟨fun _ => hq.2 _ _ _ rfl hb (ZK.rf D), fun z => absurd z (by decide)⟩, fun z => absurd z (by decide)⟩
theorem takD_eq {rl w : Int32} : takenB D (fun j => D (6 + j)) rl w = takD D rl w := rfl
theorem c_addWagon {v u w z : Int32} {Q : Mm → Prop} (h1 : isX1 T d) (hd : p + 1 < d) (hW : WD0 D) (hlt : ¬ 5 ≤ D 0 6) (hq : Q (cP M d p (addW D v u w z) r)) : WPv T mX1_addWagon [.ref d, .int v, .int u, .int w, .int z] (cP M d p D r) Q := by
  have h6 := hW.2.2.1
  have h5 := nW_le D
  have hn : nW D < 5 := by
    rw [h6, show (5 : Int32) = nI 5 from rfl, nI_leI (by omega) (by omega)] at hlt; omega
  refine WPM.of (by decide) rfl (Nat.le_of_ble_eq_true rfl) (sg_X1_addWagon_0 h1 ?_)
  have e1 : ub D 2 (nW D) u 0 6 = nI (nW D) := by rw [ub_n _ _ (by omega)]; exact h6
  have e2 : ub (ub D 2 (nW D) u) 3 (nW D) w 0 6 = nI (nW D) := by rw [ub_n _ _ (by omega)]; exact e1
  have e3 : ub (ub (ub D 2 (nW D) u) 3 (nW D) w) 7 (nW D) v 0 6 = nI (nW D) := by rw [ub_n _ _ (by omega)]; exact e2
  have e4 : ub (ub (ub (ub D 2 (nW D) u) 3 (nW D) w) 7 (nW D) v) 8 (nW D) z 0 6 = D 0 6 := by rw [ub_n _ _ (by omega), h6]; exact e3
  rw [cP_d0 (by omega), h6, cl_nI (by omega)]
  refine ⟨fun z => absurd z (nI_pos (by omega)), fun _ => ⟨fun _ => ⟨vp_nI hn (by decide), ?_⟩, fun z => absurd (nI_lt (b := 5) hn (by omega)) z⟩⟩
  rw [cP_sd 2 (by decide) (by omega)]
  simp only [forall_eq]
  rw [cP_d0 (by omega), e1, cl_nI (by omega), cP_sd 3 (by decide) (by omega), cP_d0 (by omega), e2, cl_nI (by omega)]
  rw [show d + 6 + 1 = d + 7 from rfl, show d + 6 + 2 = d + 8 from rfl, cP_sd 7 (by decide) (by omega), cP_d0 (by omega), e3, cl_nI (by omega), cP_sd 8 (by decide) (by omega), cP_d0 (by omega), e4, cP_sd0 (by omega)]
  exact ⟨vp_nI hn (by decide), vp_nI hn (by decide), vp_nI hn (by decide), hq⟩
theorem c_tellWagon (h4 : isX4 T p) (h1 : isX1 T d) (hd : p + 1 < d) (htn : tn ≤ 200) (ht : ∀ k, k < tn → M.1 (p + 1) k = tb k) (ha : a ≤ tn) (h : COk tn r a) (hf : r 4 = nI f0 ∧ f0 ≤ tn) (hW : WD0 D)
    (hq : IPost M d p tn D (if 5 ≤ D 0 6 then .inl f0 else match rdE tb tn a 0 20 with
      | .inl f => .inl f
      | .inr (v, a1) => match rdE tb tn a1 0 3 with
        | .inl f => .inl f
        | .inr (u, a2) => match rdE tb tn a2 0 9 with
          | .inl f => .inl f
          | .inr (w, a3) => match rdE tb tn a3 0 2 with
            | .inl f => .inl f
            | .inr (z, a4) => if takD D z v then .inl (tkO tb tn a3).2.1 else .inr (addW D v u w z, a4)) Q) : WPv T mX4_tellWagon [.ref p, .ref d] (cP M d p D r) Q := by
  refine WPM.of (by decide) rfl (Nat.le_of_ble_eq_true rfl) (sg_X4_tellWagon_0 h4 h1 ?_)
  rw [cP_d0 (by omega)]
  have bd : ∀ (f : Nat) (r' : Nat → Int32) (v u w z : Int32), CBad tn r' f → Q (cP M d p D r') → ((¬ ((cP M d p D r').1 p 6) = 0 → (¬ ((cP M d p D r').1 p 6) = 0 → Q (cP M d p D r')) ∧ (((cP M d p D r').1 p 6) = 0 → WPv T mX1_addWagon [.ref d, .int v, .int u, .int w, .int z] (cP M d p D r') (fun M10 => Q M10))) ∧ (((cP M d p D r').1 p 6) = 0 → WPi T mX1_isTaken [.ref d, .ref (d + 6), .int z, .int v] (cP M d p D r') (fun v11 M10 => (v11 = 0 ∨ v11 = 1) ∧ (∀ M12 : Mm, M12 = sI M10 p 6 v11 → (¬ (M12.1 p 6) = 0 → Q M12) ∧ ((M12.1 p 6) = 0 → WPv T mX1_addWagon [.ref d, .int v, .int u, .int w, .int z] M12 (fun M13 => Q M13)))))) := by
    intro f r' v u w z hb hQ
    rw [cP_p, hb.2.1]
    exact ⟨fun _ => ⟨fun _ => hQ, fun z => absurd z (by decide)⟩, fun z => absurd z (by decide)⟩
  refine ⟨fun z => sg_X4_tellWagon_14 h4 h1 h4 ⟨Or.inl rfl, ?_⟩, fun z => sg_X4_tellWagon_14 h4 h1 h4 ⟨Or.inr rfl, ?_⟩⟩
  · have z' : ¬ 5 ≤ D 0 6 := Int32.not_le.mpr z
    rw [if_neg z'] at hq
    intro M1 eM1
    rw [eM1, cP_sp]
    refine c_num h4 hd htn ht ha h.z (fun v a1 r1 e c1 c4 => ?_) (fun f r1 e c1 => ?_)
    · rw [e] at hq
      have i1 := rdE_in ha e
      refine c_num h4 hd htn ht i1.2.2.2 c1 (fun u a2 r2 e2 c2 c5 => ?_) (fun f r2 e2 c2 => ?_)
      · simp only [e2] at hq
        have i2 := rdE_in i1.2.2.2 e2
        refine c_num h4 hd htn ht i2.2.2.2 c2 (fun w a3 r3 e3 c3 c6 => ?_) (fun f r3 e3 c3 => ?_)
        · simp only [e3] at hq
          have i3 := rdE_in i2.2.2.2 e3
          refine c_num h4 hd htn ht i3.2.2.2 c3 (fun z a4 r4 e4 c4' c7 => ?_) (fun f r4 e4 c4' => ?_)
          · simp only [e4] at hq
            rw [cP_p, c4'.2.1]
            refine ⟨fun z => absurd rfl z, fun _ => c_isTaken h1 h1.2.2.2.2.2.2 (cP_G (by omega)) (cP_F (by omega)) ?_⟩
            rw [takD_eq]
            cases htk : takD D z v
            · rw [htk] at hq
              simp only [Bool.false_eq_true, if_false] at hq
              refine ⟨Or.inl rfl, ?_⟩
              intro M12 e12
              rw [e12, cP_sp, cP_p, show b2i false = 0 from rfl, upd_s]
              exact ⟨fun z => absurd rfl z, fun _ => c_addWagon h1 hd hW z' (hq.1 _ _ _ rfl c4'.z)⟩
            · rw [htk] at hq
              simp only [if_true] at hq
              refine ⟨Or.inr rfl, ?_⟩
              intro M12 e12
              rw [e12, cP_sp, cP_p, show b2i true = 1 from rfl, upd_s]
              exact ⟨fun _ => hq.2 _ _ _ rfl (c4'.b c7) (ZK.rf D), fun z => absurd z (by decide)⟩
          · simp only [e4] at hq
            exact bd f r4 v u w 0 c4' (hq.2 _ _ _ rfl c4' (ZK.rf D))
        · simp only [e3] at hq
          exact c_numB h4 c3 (bd f r3 v u 0 0 c3 (hq.2 _ _ _ rfl c3 (ZK.rf D)))
      · simp only [e2] at hq
        exact c_numB h4 c2 (c_numB h4 c2 (bd f r2 v 0 0 0 c2 (hq.2 _ _ _ rfl c2 (ZK.rf D))))
    · rw [e] at hq
      exact c_numB h4 c1 (c_numB h4 c1 (c_numB h4 c1 (bd f r1 0 0 0 0 c1 (hq.2 _ _ _ rfl c1 (ZK.rf D)))))
  · rw [if_pos (Int32.not_lt.mp z)] at hq
    intro M1 eM1
    rw [eM1, cP_sp]
    have hb := h.b hf
    exact c_numB h4 hb (c_numB h4 hb (c_numB h4 hb (c_numB h4 hb (bd f0 _ 0 0 0 0 hb (hq.2 _ _ _ rfl hb (ZK.rf D))))))
theorem c_tellItem {k : Nat} (h4 : isX4 T p) (h1 : isX1 T d) (hd : p + 1 < d) (htn : tn ≤ 200) (ht : ∀ k, k < tn → M.1 (p + 1) k = tb k) (ha : a ≤ tn) (h : COk tn r a) (hf : r 4 = nI f0 ∧ f0 ≤ tn) (hW : WD0 D) (hk : k ≤ 300)
    (hq : IPost M d p tn D (itm tb tn D k (if r 3 = 1 then r 5 else 0) a f0) Q) : WPv T mX4_tellItem [.ref p, .ref d, .int (nI k)] (cP M d p D r) Q := by
  have main : ∀ s0 : Int32, s0 = (if r 3 = 1 then r 5 else 0) → WP T mX4_tellItem 16 [(0, .ref p), (1, .ref d), (2, .int (nI k))] [.int s0] (cP M d p D r) (qv Q) := by
    intro s0 hs
    rw [← hs] at hq
    unfold itm at hq
    refine sg_X4_tellItem_16 h4 h1 ⟨fun z => ?_, fun z => ?_, fun z => ?_, fun z => ?_, fun z => ?_, fun z => ?_, fun z => ?_, fun z => ?_⟩
    · rw [z, if_pos rfl] at hq
      exact c_tellBridge h4 h1 hd htn ht ha h hf hq
    · rw [z, if_neg (by decide), if_pos rfl] at hq
      exact c_tellCost h4 h1 hd htn ht ha h hW hq
    · rw [z, if_neg (by decide), if_neg (by decide), if_pos rfl] at hq
      exact c_tellPair h4 h1 hd htn ht ha h hf hW hq
    · rw [z, if_neg (by decide), if_neg (by decide), if_neg (by decide), if_pos rfl] at hq
      exact c_tellPoints h4 h1 hd htn ht ha h hq
    · rw [z, if_neg (by decide), if_neg (by decide), if_neg (by decide), if_neg (by decide), if_pos rfl] at hq
      exact c_tellRing h4 h1 hd htn ht ha h hf hk hq
    · rw [z, if_neg (by decide), if_neg (by decide), if_neg (by decide), if_neg (by decide), if_neg (by decide), if_pos rfl] at hq
      exact c_tellSun h4 h1 hd htn ht ha h hf hW hq
    · rw [z, if_neg (by decide), if_neg (by decide), if_neg (by decide), if_neg (by decide), if_neg (by decide), if_neg (by decide), if_pos rfl] at hq
      exact c_tellWagon h4 h1 hd htn ht ha h hf hW hq
    · obtain ⟨z1, z2, z3, z4, z5, z6, z7⟩ := z
      rw [if_neg z1, if_neg z2, if_neg z3, if_neg z4, if_neg z5, if_neg z6, if_neg z7] at hq
      rw [cP_sp]
      simp only [forall_eq]
      exact hq.2 _ _ _ rfl (h.b hf) (ZK.rf D)
  refine WPM.of (by decide) rfl (Nat.le_of_ble_eq_true rfl) (sg_X4_tellItem_0 h4 h1 ?_)
  rw [cP_p]
  exact ⟨fun z => main 0 (by rw [if_neg z]), fun z => main _ (by rw [if_pos z])⟩
end
