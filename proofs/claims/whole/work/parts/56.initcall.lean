/-! CONSTRUCTORS: contracts and calls -/
theorem wl_key {T : Th} {M : Mm} {k : Nat} {q : Nat × va_E} (hk : (wl T M)[k]? = some q) : k < T.2.2.2.2.1 ∧ q.1 = T.2.2.2.1 + k := by
  unfold wl va_pl dom at hk
  rw [List.map_map, List.getElem?_map] at hk
  by_cases h : k < T.2.2.2.2.1
  · rw [List.getElem?_range h] at hk
    cases hk
    exact ⟨h, rfl⟩
  · rw [List.getElem?_eq_none (by simpa using h)] at hk
    cases hk
theorem P_left {D : va_G} {X Y : va_W} {H : Heap} (h : va_P D vwCl (X ++ Y) H) : va_P D vwCl X H := fun k q hk => h k q (by rw [List.getElem?_append_left (List.getElem?_eq_some_iff.mp hk).1]; exact hk)
theorem P_right {D : va_G} {X Y : va_W} {H : Heap} (h : va_P D vwCl (X ++ Y) H) : va_P D vwCl Y H := fun k q hk => h (X.length + k) q (by rw [List.getElem?_append_right (by omega)]; rw [show X.length + k - X.length = k by omega]; exact hk)
theorem D_left {A : Nat → Prop} {X Y : va_W} (h : va_D A (X ++ Y)) : va_D A X := ⟨fun i j p q hi hj hpq => h.1 i j p q (by rw [List.getElem?_append_left (List.getElem?_eq_some_iff.mp hi).1]; exact hi) (by rw [List.getElem?_append_left (List.getElem?_eq_some_iff.mp hj).1]; exact hj) hpq, fun k q hk => h.2 k q (by rw [List.getElem?_append_left (List.getElem?_eq_some_iff.mp hk).1]; exact hk)⟩
theorem D_app {A : Nat → Prop} {X Y : va_W} (h1 : va_D A X) (h2 : va_D A Y) (hd : ∀ (i j : Nat) (p q : Nat × va_E), X[i]? = some p → Y[j]? = some q → p.1 ≠ q.1) : va_D A (X ++ Y) := by
  have key : ∀ (k : Nat) (q : Nat × va_E), (X ++ Y)[k]? = some q → (k < X.length ∧ X[k]? = some q) ∨ (X.length ≤ k ∧ Y[k - X.length]? = some q) := by
    intro k q hk
    by_cases h : k < X.length
    · rw [List.getElem?_append_left h] at hk; exact Or.inl ⟨h, hk⟩
    · rw [List.getElem?_append_right (by omega)] at hk; exact Or.inr ⟨by omega, hk⟩
  refine ⟨fun i j p q hi hj hpq => ?_, fun k q hk => ?_⟩
  · rcases key i p hi with ⟨a1, a2⟩ | ⟨a1, a2⟩ <;> rcases key j q hj with ⟨b1, b2⟩ | ⟨b1, b2⟩
    · exact h1.1 i j p q a2 b2 hpq
    · exact absurd hpq (hd _ _ _ _ a2 b2)
    · exact absurd hpq.symm (hd _ _ _ _ b2 a2)
    · have := h2.1 _ _ p q a2 b2 hpq
      omega
  · rcases key k q hk with ⟨a1, a2⟩ | ⟨a1, a2⟩
    · exact h1.2 k q a2
    · exact h2.2 _ q a2
/-- a constructor's contract: a raw object e0 at b, the heap's last cell; then a block of k cells with memory M -/
def CM (T : Th) (ν : Mt) (ρ : Room) (b : Nat) (e0 : va_E) (k : Nat) (M : Mm) : Prop :=
  Met T.1 ν.2.1 (mWs ν) ρ (va_Pc [.ref b] (fun U => U.heap.size = b + 1 ∧ va_P T.2.1 vwCl [(b, e0)] U.heap ∧ va_K T.2.1 vwCl (tyL T) U ∧ NwA U)) (Qc T b (fun H => H.size = b + k ∧ RR (Tb T b k) M H)) ρ.cells ρ.slots (fun q => b ≤ q)
theorem CM.of {T : Th} {ν : Mt} {ρ : Room} {b k : Nat} {e0 : va_E} {M : Mm} (hy : plainName ν.2.1.cls = true) (hown : ν.2.1.cls = ν.1) (hi : ν.2.1.name = "<init>") (hn : 1 ≤ ν.2.2.2.1) (h : WC T ν ρ b 0 [(0, .ref b)] [] [(b, e0)] (b + 1) 0 0 ρ.cells ρ.slots (fun H => H.size = b + k ∧ RR (Tb T b k) M H)) : CM T ν ρ b e0 k M := by
  refine Met.ofW (cc := ν.2.2.1) (maxL := ν.2.2.2.1) (ret := ν.2.2.2.2.1) hy rfl ?_
  intro p e s m args below meth c s₁ B hml hv
  obtain ⟨rfl, hz, hP, hK, hN⟩ := hv
  have hts0 := atoms_spec (ws := mWs ν) B.pre
  rw [lg_entry_eq]
  exact h p e s m _ below meth c s.heap [] _ ⟨B.exec, B.bytes, B.returns, hml, by rw [← hown]; exact findClass_of_methodNamed B.named, fun w hw => hts0 w (List.mem_cons_of_mem _ hw), B.notSynchronized, hK⟩ ⟨by rw [(name_of_methodNamed B.named B.method).1]; exact hi, hN, hz⟩ hP ⟨fun i j p q hi hj _ => by
    have h1 := (List.getElem?_eq_some_iff.mp hi).1
    have h2 := (List.getElem?_eq_some_iff.mp hj).1
    simp only [List.length_cons, List.length_nil] at h1 h2
    omega, fun k q hk => by
    have h1 := (List.getElem?_eq_some_iff.mp hk).1
    simp only [List.length_cons, List.length_nil] at h1
    rw [show k = 0 by omega] at hk
    cases hk
    exact Nat.le_refl _⟩ hz va_S.rf (lv_entry [.ref b] hn)
theorem blind_C {T : Th} {b : Nat} {e0 : va_E} : FrameBlind (va_Pc [.ref b] (fun U => U.heap.size = b + 1 ∧ va_P T.2.1 vwCl [(b, e0)] U.heap ∧ va_K T.2.1 vwCl (tyL T) U ∧ NwA U)) := fun a U g mk q => by
  obtain ⟨q0, q1, q2, q3, q4⟩ := q
  exact ⟨q0, q1, q2, va_K.moved (u := U) (U := U.calling g mk a) (Vm.Alike.refl U.vm) q3, NwA.same (U := U.calling g mk a) rfl q4⟩
section
variable {T : Th} {μ ν : Mt} {ρ ρ' : Room} {a b pc idx k : Nat} {L : List (Nat × Value)} {st : List Value} {X : va_W} {e0 : va_E} {M : Mm} {n ce sl kc ks : Nat} {Φ : Heap → Prop}
theorem WC.ran (hrun : ∀ (p : Program) (e : Env) (s : State) (m : MethodId) (args : Array Value) (below : List Frame) (meth : Method) (c : Code) (H : Heap) (locs : List Loc) (ls : Array Slot), Cx T μ p s m args meth c → NwA s → (∀ U : State, U.heap = H → s.WarmedH U.vm → va_Pc [.ref b] (fun U => U.heap.size = b + 1 ∧ va_P T.2.1 vwCl [(b, e0)] U.heap ∧ va_K T.2.1 vwCl (tyL T) U ∧ NwA U) #[.ref b] U) → lv_has ls μ.2.2.2.1 L → va_Run p T.1 e ρ s m args below meth c H locs ce sl ρ'.cells ρ'.slots (F0 m pc ls (.ref b :: st)) st (Qc T b (fun H => H.size = b + k ∧ RR (Tb T b k) M H) #[.ref b]) (fun q => b ≤ q))
    (hab : a ≤ b) (h : WC T μ ρ a (pc + 3) L st (X ++ wl (Tb T b k) M) (b + k) (ce + ρ'.cells) (sl + ρ'.slots) kc ks Φ) : WC T μ ρ a pc L (.ref b :: st) (X ++ [(b, e0)]) (b + 1) ce sl kc ks Φ := by
  intro p e s m args below meth c H locs ls C0 hin hP hD hz hS hl
  have hr := hrun p e s m args below meth c H locs ls C0 hin.2.1 (fun U hU hW => ⟨rfl, by rw [hU]; exact hz, by rw [hU]; exact P_right hP, va_K.moved hW.alike C0.2.2.2.2.2.2.2, NwA.warm hW hin.2.1⟩) hl
  refine va_callv hr hS (fun q _ hq => Nat.le_trans hab hq) (fun q hq => Nat.le_trans hab hq) (fun u t H1 locs1 ht hvm _ hB hz1 hk1 hS1 => ?_)
  obtain ⟨⟨hsz, hRR⟩, hK1⟩ := hB
  rw [ht] at hsz hRR
  have hlt : ∀ (i : Nat) (x : Nat × va_E), X[i]? = some x → x.1 < b := by
    intro i x hx
    have hi := (List.getElem?_eq_some_iff.mp hx).1
    have h1 : (X ++ [(b, e0)])[i]? = some x := by rw [List.getElem?_append_left hi]; exact hx
    have h2 : (X ++ [(b, e0)])[X.length]? = some (b, e0) := by rw [List.getElem?_append_right (Nat.le_refl _)]; simp
    have h3 := (hP i x h1).lt
    have h4 : x.1 ≠ b := fun e => by
      have := hD.1 i X.length x (b, e0) h1 h2 e
      omega
    omega
  refine h p e s m args below meth c H1 locs1 ls C0 hin (((P_left hP).kept (fun i x hx => hk1 x.1 (by have := hlt i x hx; omega) (by have := hlt i x hx; omega))).app hRR) (D_app (D_left hD) ?_ ?_) hsz hS1 hl
  · have h5 := wl_D (Tb T b k) M
    exact ⟨h5.1, fun i q hq => Nat.le_trans hab (h5.2 i q hq).1⟩
  · intro i j p q hi hj
    have h6 := hlt i p hi
    have h7 : q.1 = b + j := (wl_key hj).2
    omega
/-- what the tables say of a constructor -/
def Ci (own : String) (idx : Nat) (ν : Mt) : Prop := Cond.methodLink own idx ν.2.1 ∈ wsA ∧ Cond.instanceMethod ν.2.1 ∈ wsA ∧ Cond.initialized ν.2.1.cls ∈ wsA ∧ Cond.code ν.2.1 ν.2.2.1 ν.2.2.2.1 none ∈ wsA ∧ ν.2.2.2.2.1 = none ∧ ν.2.1.name = "<init>" ∧ (ν.2.1.cls ≠ "java/lang/invoke/MethodHandle" ∧ ν.2.1.cls ≠ "java/lang/invoke/VarHandle" ∧ (parseMethodDescriptor ν.2.1.desc).map (fun d => d.parameters.length) = some 0)
def Cn (own : String) (idx : Nat) (ν : Mt) : Prop := (own, idx, ν.2.1) ∈ nwL ∧ Cond.instanceMethod ν.2.1 ∈ wsA ∧ Cond.initialized ν.2.1.cls ∈ wsA ∧ Cond.code ν.2.1 ν.2.2.1 ν.2.2.2.1 none ∈ wsA ∧ ν.2.2.2.2.1 = none ∧ ν.2.1.name = "<init>" ∧ (ν.2.1.cls ≠ "java/lang/invoke/MethodHandle" ∧ ν.2.1.cls ≠ "java/lang/invoke/VarHandle" ∧ (parseMethodDescriptor ν.2.1.desc).map (fun d => d.parameters.length) = some 0)
def RmC (ρ ρ' : Room) (ν : Mt) (ce sl : Nat) : Prop := (ρ'.frames + 1 ≤ ρ.frames ∧ 8 + (ν.2.2.2.1 + 11) + ρ'.locals ≤ ρ.locals) ∧ ce + ρ'.cells ≤ ρ.cells ∧ sl + ρ'.slots ≤ ρ.slots
theorem WC.call (hc : Ci μ.1 idx ν) (hrm : RmC ρ ρ' ν ce sl) (hst : (st.map fun v => v.category).sum ≤ 8) (hd : decode μ.2.2.1 pc = .ok (.invokespecial idx, 3)) (hab : a ≤ b) (hM : CM T ν ρ' b e0 k M) (h : WC T μ ρ a (pc + 3) L st (X ++ wl (Tb T b k) M) (b + k) (ce + ρ'.cells) (sl + ρ'.slots) kc ks Φ) : WC T μ ρ a pc L (.ref b :: st) (X ++ [(b, e0)]) (b + 1) ce sl kc ks Φ := by
  refine WC.ran (fun p e s m args below meth c H locs ls C0 hN hpre hl => ?_) hab h
  obtain ⟨hx, hb, hr, hml, hown, hts, hlk, hK⟩ := C0
  obtain ⟨c1, c2, c3, c4, c5, c6, c7⟩ := hc
  exact va_runI (As := []) (Ts := wsA) ⟨hx, hb, hml, hown, hts⟩ hM (cwI (maxL := ν.2.2.2.1) 0 hts (good_mWs (by rw [c5]; exact c4)) (by unfold mWs; rw [c5]) rfl rfl (hts _ c3) (hts _ c1) (hts _ c2) c6 c7 hrm.1) ⟨blind_C, hpre⟩ rfl rfl hl.1 rfl (lv_room hst) hd hrm.2
theorem WC.callN (hc : Cn μ.1 idx ν) (hrm : RmC ρ ρ' ν ce sl) (hst : (st.map fun v => v.category).sum ≤ 8) (hd : decode μ.2.2.1 pc = .ok (.invokespecial idx, 3)) (hab : a ≤ b) (hM : CM T ν ρ' b e0 k M) (h : WC T μ ρ a (pc + 3) L st (X ++ wl (Tb T b k) M) (b + k) (ce + ρ'.cells) (sl + ρ'.slots) kc ks Φ) : WC T μ ρ a pc L (.ref b :: st) (X ++ [(b, e0)]) (b + 1) ce sl kc ks Φ := by
  refine WC.ran (fun p e s m args below meth c H locs ls C0 hN hpre hl => ?_) hab h
  obtain ⟨hx, hb, hr, hml, hown, hts, hlk, hK⟩ := C0
  obtain ⟨c1, c2, c3, c4, c5, c6, c7⟩ := hc
  exact va_runIN (As := []) (Ts := wsA) ⟨hx, hb, hml, hown, hts⟩ hM ⟨va_cnB (maxL := ν.2.2.2.1) 0 hts (good_mWs (by rw [c5]; exact c4)) (by unfold mWs; rw [c5]) rfl rfl (hN.1 _ c1) (hts _ c3) c7 hrm.1, c6, hts _ c2⟩ ⟨blind_C, hpre⟩ rfl rfl hl.1 rfl (lv_room hst) hd hrm.2
end
