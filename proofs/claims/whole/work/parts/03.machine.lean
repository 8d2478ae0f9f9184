
/-! THE MEMORY: ints, longs, references by address and place; a world T: launch, class numbers, array classes, first address, how many cells, shape of each -/
abbrev Mm : Type := (Nat → Nat → Int32) × (Nat → Nat → Int64) × (Nat → Nat → Nat)
def sI (M : Mm) (a k : Nat) (v : Int32) : Mm := (fun b j => if b = a ∧ j = k then v else M.1 b j, M.2.1, M.2.2)
def sL (M : Mm) (a k : Nat) (v : Int64) : Mm := (M.1, fun b j => if b = a ∧ j = k then v else M.2.1 b j, M.2.2)
def sR (M : Mm) (a k v : Nat) : Mm := (M.1, M.2.1, fun b j => if b = a ∧ j = k then v else M.2.2 b j)
def sC (M : Mm) (a b sp dp n : Nat) : Mm := (fun q j => if q = b then va_cpy (M.1 a) (M.1 b) sp dp n j else M.1 q j, M.2.1, M.2.2)
abbrev Th : Type := Launch × va_G × (Nat → ClassId) × Nat × Nat × (Nat → Nat × Nat)
def nfl (c : Nat) : Nat := [3, 14, 7, 5, 7, 4, 10, 39].getD c 0
def fkT : List (List (Nat × Nat)) := [
  [(0,0),(2,1),(2,2)],
  [(0,0),(0,0),(0,0),(0,0),(0,0),(0,0),(0,0),(0,0),(2,1),(2,2),(2,3),(2,4),(2,5),(2,6)],
  [(0,0),(0,0),(2,1),(2,2),(2,3),(2,4),(2,5)],
  [(0,0),(0,0),(2,1),(2,2),(2,3)],
  [(2,1),(0,0),(0,0),(0,0),(0,0),(0,0),(0,0)],
  [(2,1),(2,7),(0,0),(0,0)],
  [(2,1),(2,3),(2,7),(2,10),(2,16),(2,84),(2,152),(3,0),(3,0),(1,0)],
  [(1,0),(2,1),(0,0),(2,2),(2,3),(2,4),(2,5),(2,6),(2,7),(2,8),(2,9),(2,10),(2,11),(2,12),(2,13),(2,14),(2,15),(2,16),(0,0),(0,0),(0,0),(0,0),(0,0),(0,0),(0,0),(0,0),(2,17),(2,18),(2,19),(0,0),(2,20),(0,0),(2,21),(2,22),(2,23),(2,24),(2,25),(1,0),(1,0)]]
def fkd (c k : Nat) : Nat × Nat := (fkT.getD c []).getD k (0, 0)
def fv (M : Mm) (a c k : Nat) : Value := match fkd c k with
  | (0, _) => .int (M.1 a k)
  | (1, _) => .long (M.2.1 a k)
  | (2, o) => .ref (a + o)
  | _ => .ref (M.2.2 a k)
def cellOf (T : Th) (M : Mm) (a : Nat) : va_E := match T.2.2.2.2.2 a with
  | (0, c) => .inr (c, (List.range (nfl c)).map (fv M a c))
  | (1, n) => .inl (T.2.2.1 1, n, .inl (M.1 a))
  | (2, n) => .inl (T.2.2.1 2, n, .inr (.inl (M.2.1 a)))
  | (3, n) => .inl (T.2.2.1 3, n, .inl (M.1 a))
  | (4, n) => .inl (T.2.2.1 4, n, .inl (M.1 a))
  | (_, n) => .inl (T.2.2.1 5, n, .inr (.inr (.inr (.inr (fun j => some (M.2.2 a j))))))
def tyL (T : Th) : List (ClassId × FieldType) := [(T.2.2.1 1, .int), (T.2.2.1 2, .long), (T.2.2.1 3, .byte), (T.2.2.1 4, .boolean), (T.2.2.1 5, .object RX2)]
def dom (T : Th) : List Nat := (List.range T.2.2.2.2.1).map (fun i => T.2.2.2.1 + i)
def wl (T : Th) (M : Mm) : va_W := va_pl (dom T) (cellOf T M)
def RR (T : Th) (M : Mm) (H : Heap) : Prop := va_P T.2.1 vwCl (wl T M) H
def AA (T : Th) : Nat → Prop := fun q => T.2.2.2.1 ≤ q ∧ q < T.2.2.2.1 + T.2.2.2.2.1
/-- a cell of the world, of that shape -/
def Ob (T : Th) (a : Nat) (z : Nat × Nat) : Prop := AA T a ∧ T.2.2.2.2.2 a = z
theorem dom_in {T : Th} {a : Nat} (h : AA T a) : a ∈ dom T := by
  refine List.mem_map.mpr ⟨a - T.2.2.2.1, List.mem_range.mpr ?_, ?_⟩
  · have := h.1; have := h.2; omega
  · have := h.1; omega
theorem wl_D (T : Th) (M : Mm) : va_D (AA T) (wl T M) := by
  have key : ∀ (k : Nat) (q : Nat × va_E), (wl T M)[k]? = some q → k < T.2.2.2.2.1 ∧ q.1 = T.2.2.2.1 + k := by
    intro k q hk
    unfold wl va_pl dom at hk
    rw [List.map_map, List.getElem?_map] at hk
    by_cases h : k < T.2.2.2.2.1
    · rw [List.getElem?_range h] at hk
      cases hk
      exact ⟨h, rfl⟩
    · rw [List.getElem?_eq_none (by simpa using h)] at hk
      cases hk
  refine ⟨fun i j p q hi hj hpq => ?_, fun k q hk => ?_⟩
  · have h1 := (key i p hi).2
    have h2 := (key j q hj).2
    omega
  · obtain ⟨h1, h2⟩ := key k q hk
    unfold AA
    omega
theorem wl_get {T : Th} {M : Mm} {a : Nat} {z : Nat × Nat} (h : Ob T a z) : ∃ k : Nat, (wl T M)[k]? = some (a, cellOf T M a) := va_pl_get (X := []) (dom_in h.1)
theorem wl_set {T : Th} {M M' : Mm} {a k : Nat} {z : Nat × Nat} {e : va_E} (h : Ob T a z) (hk : (wl T M)[k]? = some (a, cellOf T M a)) (he : e = cellOf T M' a) (ho : ∀ b, b ≠ a → cellOf T M b = cellOf T M' b) : (wl T M).set k (a, e) = wl T M' := by
  have h1 := va_pl_set (X := []) (e := e) (wl_D T M) (dom_in h.1) hk
  refine h1.trans (va_pl_congr fun b => ?_)
  by_cases hb : b = a
  · subst hb; simp [va_up, he]
  · simp [va_up, hb, ho b hb]
theorem cell_obj {T : Th} {M : Mm} {a c : Nat} (h : Ob T a (0, c)) : cellOf T M a = .inr (c, (List.range (nfl c)).map (fv M a c)) := by simp [cellOf, h.2]
theorem cell_i {T : Th} {M : Mm} {a n : Nat} (h : Ob T a (1, n)) : cellOf T M a = .inl (T.2.2.1 1, n, .inl (M.1 a)) := by simp [cellOf, h.2]
theorem cell_l {T : Th} {M : Mm} {a n : Nat} (h : Ob T a (2, n)) : cellOf T M a = .inl (T.2.2.1 2, n, .inr (.inl (M.2.1 a))) := by simp [cellOf, h.2]
theorem cell_b {T : Th} {M : Mm} {a n : Nat} (h : Ob T a (3, n)) : cellOf T M a = .inl (T.2.2.1 3, n, .inl (M.1 a)) := by simp [cellOf, h.2]
theorem cell_z {T : Th} {M : Mm} {a n : Nat} (h : Ob T a (4, n)) : cellOf T M a = .inl (T.2.2.1 4, n, .inl (M.1 a)) := by simp [cellOf, h.2]
theorem cell_q {T : Th} {M : Mm} {a n : Nat} (h : Ob T a (5, n)) : cellOf T M a = .inl (T.2.2.1 5, n, .inr (.inr (.inr (.inr (fun j => some (M.2.2 a j)))))) := by simp [cellOf, h.2]
theorem fvo_sI {M : Mm} {a k b : Nat} {v : Int32} (hb : b ≠ a) : fv (sI M a k v) b = fv M b := by
  funext c j; simp [fv, sI, hb]
theorem fvo_sL {M : Mm} {a k b : Nat} {v : Int64} (hb : b ≠ a) : fv (sL M a k v) b = fv M b := by
  funext c j; simp [fv, sL, hb]
theorem fvo_sR {M : Mm} {a k b v : Nat} (hb : b ≠ a) : fv (sR M a k v) b = fv M b := by
  funext c j; simp [fv, sR, hb]
theorem fvo_sC {M : Mm} {a c b sp dp n : Nat} (hb : b ≠ c) : fv (sC M a c sp dp n) b = fv M b := by
  funext c j; simp [fv, sC, hb]
theorem cell_sI {T : Th} {M : Mm} {a k b : Nat} {v : Int32} (hb : b ≠ a) : cellOf T M b = cellOf T (sI M a k v) b := by
  unfold cellOf; rw [fvo_sI hb]; simp only [sI, hb, false_and, if_false]
theorem cell_sL {T : Th} {M : Mm} {a k b : Nat} {v : Int64} (hb : b ≠ a) : cellOf T M b = cellOf T (sL M a k v) b := by
  unfold cellOf; rw [fvo_sL hb]; simp only [sL, hb, false_and, if_false]
theorem cell_sR {T : Th} {M : Mm} {a k b v : Nat} (hb : b ≠ a) : cellOf T M b = cellOf T (sR M a k v) b := by
  unfold cellOf; rw [fvo_sR hb]; simp only [sR, hb, false_and, if_false]
theorem cell_sC {T : Th} {M : Mm} {a c b sp dp n : Nat} (hb : b ≠ c) : cellOf T M b = cellOf T (sC M a c sp dp n) b := by
  unfold cellOf; rw [fvo_sC hb]; simp only [sC, hb, if_false]
theorem flds_set {f g : Nat → Value} {n k : Nat} {v : Value} (hk : g k = v) (ho : ∀ j, j ≠ k → g j = f j) : ((List.range n).map f).set k v = (List.range n).map g := by
  apply List.ext_getElem?
  intro i
  by_cases hi : i < n
  · by_cases hik : i = k
    · subst hik
      rw [List.getElem?_set_self (by simpa using hi)]
      simp [hi, hk]
    · rw [List.getElem?_set_ne (Ne.symm hik)]
      simp [hi, ho i hik]
  · rw [List.getElem?_eq_none (by simpa using hi), List.getElem?_eq_none (by simpa using hi)]
theorem fv_i {M : Mm} {a c k o : Nat} (h : fkd c k = (0, o)) : fv M a c k = .int (M.1 a k) := by simp [fv, h]
theorem fv_l {M : Mm} {a c k o : Nat} (h : fkd c k = (1, o)) : fv M a c k = .long (M.2.1 a k) := by simp [fv, h]
theorem fv_f {M : Mm} {a c k o : Nat} (h : fkd c k = (2, o)) : fv M a c k = .ref (a + o) := by simp [fv, h]
theorem fv_r {M : Mm} {a c k o : Nat} (h : fkd c k = (3, o)) : fv M a c k = .ref (M.2.2 a k) := by simp [fv, h]
theorem fv_sI {M : Mm} {a c k j : Nat} {v : Int32} (h : j ≠ k) : fv (sI M a k v) a c j = fv M a c j := by
  simp only [fv, sI, h, and_false, if_false]
theorem fv_sL {M : Mm} {a c k j : Nat} {v : Int64} (h : j ≠ k) : fv (sL M a k v) a c j = fv M a c j := by
  simp only [fv, sL, h, and_false, if_false]
theorem fv_sR {M : Mm} {a c k j v : Nat} (h : j ≠ k) : fv (sR M a k v) a c j = fv M a c j := by
  simp only [fv, sR, h, and_false, if_false]
/-! A METHOD: its class, its name, its code, locals, answer, frames and locals' words that its calls may take -/
abbrev Mt : Type := String × MethodName × ByteArray × Nat × Option FieldType × Nat × Nat
def mRm (μ : Mt) : Room := { frames := μ.2.2.2.2.2.1, cells := 0, slots := 0, locals := μ.2.2.2.2.2.2 }
def mWs (μ : Mt) : List Cond := Cond.code μ.2.1 μ.2.2.1 μ.2.2.2.1 μ.2.2.2.2.1 :: wsA
def Cx (T : Th) (μ : Mt) (p : Program) (s : State) (m : MethodId) (args : Array Value) (meth : Method) (c : Code) : Prop :=
  p.tables.exec = Jvm.exec ∧ c.code = μ.2.2.1 ∧ meth.sig.returnType = μ.2.2.2.2.1 ∧ c.maxLocals = μ.2.2.2.1 ∧ s.vm.findClass μ.1 = some m.cls ∧ (∀ w ∈ wsA, w.before args s = true) ∧ meth.locks = false ∧ va_K T.2.1 vwCl (tyL T) s
def Qq (T : Th) (Q : Option Value → Mm → Prop) : Array Value → State → Outcome → State → Prop := fun _ st oc t => (∃ (r : Option Value) (M : Mm), oc = .returned r ∧ Q r M ∧ RR T M t.heap ∧ va_K T.2.1 vwCl (tyL T) t) ∧ va_F (AA T) st t
def WP (T : Th) (μ : Mt) (pc : Nat) (L : List (Nat × Value)) (st : List Value) (M : Mm) (Q : Option Value → Mm → Prop) : Prop :=
  ∀ (p : Program) (e : Env) (s : State) (m : MethodId) (args : Array Value) (below : List Frame) (meth : Method) (c : Code) (H : Heap) (locs : List Loc) (ls : Array Slot), Cx T μ p s m args meth c → RR T M H → va_S (AA T) s.heap H locs → lv_has ls μ.2.2.2.1 L → W p T.1 e (mRm μ) s m args below meth c H locs 0 0 (MQ below (Qq T Q) args s 0 0 (AA T)) (F0 m pc ls st)
def WPM (T : Th) (μ : Mt) (As : List Value) (M : Mm) (Q : Option Value → Mm → Prop) : Prop :=
  Met T.1 μ.2.1 (mWs μ) (mRm μ) (va_Pc As (fun U => RR T M U.heap ∧ va_K T.2.1 vwCl (tyL T) U)) (Qq T Q) 0 0 (AA T)
def qi (Q : Int32 → Mm → Prop) : Option Value → Mm → Prop := fun r M => ∃ x : Int32, r = some (.int x) ∧ Q x M
def ql (Q : Int64 → Mm → Prop) : Option Value → Mm → Prop := fun r M => ∃ x : Int64, r = some (.long x) ∧ Q x M
def qv (Q : Mm → Prop) : Option Value → Mm → Prop := fun r M => r = none ∧ Q M
abbrev WPi (T : Th) (μ : Mt) (As : List Value) (M : Mm) (Q : Int32 → Mm → Prop) : Prop := WPM T μ As M (qi Q)
abbrev WPl (T : Th) (μ : Mt) (As : List Value) (M : Mm) (Q : Int64 → Mm → Prop) : Prop := WPM T μ As M (ql Q)
abbrev WPv (T : Th) (μ : Mt) (As : List Value) (M : Mm) (Q : Mm → Prop) : Prop := WPM T μ As M (qv Q)
theorem WPM.of {T : Th} {μ : Mt} {As : List Value} {M : Mm} {Q : Option Value → Mm → Prop} (hy : plainName μ.2.1.cls = true) (hown : μ.2.1.cls = μ.1) (hn : (lg_sl As).length ≤ μ.2.2.2.1) (h : WP T μ 0 (lv_args 0 As) [] M Q) : WPM T μ As M Q := by
  refine Met.ofW (cc := μ.2.2.1) (maxL := μ.2.2.2.1) (ret := μ.2.2.2.2.1) hy rfl ?_
  intro p e s m args below meth c s₁ B hml hv
  obtain ⟨rfl, hR, hK⟩ := hv
  have hts0 := atoms_spec (ws := mWs μ) B.pre
  rw [lg_entry_eq]
  exact h p e s m _ below meth c s.heap [] _ ⟨B.exec, B.bytes, B.returns, hml, by rw [← hown]; exact findClass_of_methodNamed B.named, fun w hw => hts0 w (List.mem_cons_of_mem _ hw), B.notSynchronized, hK⟩ hR va_S.rf (lv_entry As hn)
theorem Qq.mono {T : Th} {Q Q' : Option Value → Mm → Prop} (h : ∀ r M, Q r M → Q' r M) {a : Array Value} {st t : State} {o : Outcome} (hq : Qq T Q a st o t) : Qq T Q' a st o t := by
  obtain ⟨⟨r, M, h1, h2, h3, h4⟩, h5⟩ := hq
  exact ⟨⟨r, M, h1, h r M h2, h3, h4⟩, h5⟩
/-- what a call of an object's method takes from the tables -/
def Cv (own : String) (idx : Nat) (ν : Mt) (n : Nat) : Prop := Cond.methodLink own idx ν.2.1 ∈ wsA ∧ Cond.instanceMethod ν.2.1 ∈ wsA ∧ Cond.selects ν.1 ν.2.1 ν.2.1 ∈ wsA ∧ Cond.initialized ν.2.1.cls ∈ wsA ∧ Cond.code ν.2.1 ν.2.2.1 ν.2.2.2.1 ν.2.2.2.2.1 ∈ wsA ∧ (ν.2.1.cls ≠ "java/lang/invoke/MethodHandle" ∧ ν.2.1.cls ≠ "java/lang/invoke/VarHandle" ∧ (parseMethodDescriptor ν.2.1.desc).map (fun d => d.parameters.length) = some n)
def Cst (own : String) (idx : Nat) (ν : Mt) (n : Nat) : Prop := Cond.methodLink own idx ν.2.1 ∈ wsA ∧ Cond.static ν.2.1 ∈ wsA ∧ Cond.initialized ν.2.1.cls ∈ wsA ∧ Cond.code ν.2.1 ν.2.2.1 ν.2.2.2.1 ν.2.2.2.2.1 ∈ wsA ∧ (ν.2.1.cls ≠ "java/lang/invoke/MethodHandle" ∧ ν.2.1.cls ≠ "java/lang/invoke/VarHandle" ∧ (parseMethodDescriptor ν.2.1.desc).map (fun d => d.parameters.length) = some n)
def RmOK (μ ν : Mt) : Prop := (mRm ν).frames + 1 ≤ (mRm μ).frames ∧ 8 + (ν.2.2.2.1 + 11) + (mRm ν).locals ≤ (mRm μ).locals
theorem good_mWs {ν : Mt} (hc : Cond.code ν.2.1 ν.2.2.1 ν.2.2.2.1 ν.2.2.2.2.1 ∈ wsA) : GoodIn wsA (mWs ν) := by
  intro w hw
  have hw' : w ∈ wsA := by
    rcases List.mem_cons.mp hw with h | h
    · rw [h]; exact hc
    · exact h
  exact ⟨hw', good_of_word (List.mem_filter.mp hw').2⟩
theorem blind_P {T : Th} {As : List Value} {M : Mm} : FrameBlind (va_Pc As (fun U => RR T M U.heap ∧ va_K T.2.1 vwCl (tyL T) U)) := fun a U g mk q => by
  obtain ⟨q0, q1, q2⟩ := q
  exact ⟨q0, q1, va_K.moved (u := U) (U := U.calling g mk a) (Vm.Alike.refl U.vm) q2⟩
theorem WP.run {T : Th} {μ : Mt} {pc : Nat} {L : List (Nat × Value)} {sk st : List Value} {M : Mm} {Q : Option Value → Mm → Prop} {a' : Array Value} {QQ : Option Value → Mm → Prop}
    (hrun : ∀ (p : Program) (e : Env) (s : State) (m : MethodId) (args : Array Value) (below : List Frame) (meth : Method) (c : Code) (H : Heap) (locs : List Loc) (ls : Array Slot), Cx T μ p s m args meth c → RR T M H → va_S (AA T) s.heap H locs → lv_has ls μ.2.2.2.1 L → va_Run p T.1 e (mRm μ) s m args below meth c H locs 0 0 0 0 (F0 m pc ls sk) st (Qq T QQ a') (AA T))
    (hk : ∀ r M', QQ r M' → WP T μ (pc + 3) L (r.toList ++ st) M' Q) : WP T μ pc L sk M Q := by
  intro p e s m args below meth c H locs ls X hR hS hl
  intro Tt hT Xs
  obtain ⟨v, st₀, t, T', Ls, h0, X', hL, e1, e2, ⟨⟨r, M', hv, hq, hR', hK'⟩, hz, hkk⟩, go⟩ := hrun p e s m args below meth c H locs ls X hR hS hl Tt hT Xs
  cases hv
  rw [h0] at hz hkk
  have hS' : va_S (AA T) s.heap T'.heap (locs ++ Ls) := by
    refine ⟨Nat.le_trans hS.1 (by rw [e1]; exact hz), fun q h1 h2 => ?_, fun q hq2 => ?_⟩
    · rw [e1, hkk q (Nat.lt_of_lt_of_le h1 hS.1) h2]
      exact hS.2.1 q h1 h2
    · rcases List.mem_append.mp hq2 with h | h
      · exact hS.2.2 q h
      · exact hL q h
  obtain ⟨t2, a1, b1⟩ := hk _ M' hq p e s m args below meth c T'.heap (locs ++ Ls) ls X (by rw [e1]; exact hR') hS' hl T' rfl X'
  exact ⟨t2, go t2 a1, b1⟩
theorem WP.callV {T : Th} {μ ν : Mt} {pc idx n ci a N : Nat} {L : List (Nat × Value)} {sk st As : List Value} {M : Mm} {Q QQ : Option Value → Mm → Prop} {T' : u_T} (hc : Cv μ.1 idx ν n) (hO : Ob T a (0, ci)) (hcl : vwCl[ci]? = some (ν.1, T', N)) (hn : As.length = n) (hrm : RmOK μ ν) (hst : (st.map fun v => v.category).sum ≤ 8) (hsk : sk = As.reverse ++ .ref a :: st) (hd : decode μ.2.2.1 pc = .ok (.invokevirtual idx, 3))
    (h : WPM T ν (.ref a :: As) M QQ) (hk : ∀ r M', QQ r M' → WP T μ (pc + 3) L (r.toList ++ st) M' Q) : WP T μ pc L sk M Q := by
  refine WP.run (a' := (Value.ref a :: As).toArray) (st := st) (fun p e s m args below meth c H locs ls X hR hS hl => ?_) hk
  obtain ⟨hx, hb, hr, hml, hown, hts, hlk, hK⟩ := X
  obtain ⟨k, hget⟩ := wl_get (M := M) hO
  rw [cell_obj hO] at hget
  exact va_runV (Ts := wsA) (C := ν.1) ⟨hx, hb, hml, hown, hts⟩ h ⟨callB_of n hts (good_mWs hc.2.2.2.2.1) rfl rfl rfl (hts _ hc.2.2.2.1) (hts _ hc.1) hc.2.2.2.2.2 hrm, hts _ hc.2.1, hts _ hc.2.2.1⟩ ⟨blind_P, va_recv hK hR hcl hget, fun U hU hW => ⟨rfl, by rw [hU]; exact hR, va_K.moved hW.alike hK⟩⟩ rfl hn hl.1 hsk (lv_room hst) hd ⟨Nat.zero_le _, Nat.zero_le _⟩
theorem WP.callS {T : Th} {μ ν : Mt} {pc idx n : Nat} {L : List (Nat × Value)} {sk st As : List Value} {M : Mm} {Q QQ : Option Value → Mm → Prop} (hc : Cst μ.1 idx ν n) (hn : As.length = n) (hrm : RmOK μ ν) (hst : (st.map fun v => v.category).sum ≤ 8) (hsk : sk = As.reverse ++ st) (hd : decode μ.2.2.1 pc = .ok (.invokestatic idx, 3))
    (h : WPM T ν As M QQ) (hk : ∀ r M', QQ r M' → WP T μ (pc + 3) L (r.toList ++ st) M' Q) : WP T μ pc L sk M Q := by
  refine WP.run (a' := As.toArray) (st := st) (fun p e s m args below meth c H locs ls X hR hS hl => ?_) hk
  obtain ⟨hx, hb, hr, hml, hown, hts, hlk, hK⟩ := X
  exact va_runS (Ts := wsA) ⟨hx, hb, hml, hown, hts⟩ h ⟨callB_of n hts (good_mWs hc.2.2.2.1) rfl rfl rfl (hts _ hc.2.2.1) (hts _ hc.1) hc.2.2.2.2 hrm, hts _ hc.2.1⟩ ⟨blind_P, fun U hU hW => ⟨rfl, by rw [hU]; exact hR, va_K.moved hW.alike hK⟩⟩ rfl hn hl.1 hsk (lv_room hst) hd ⟨Nat.zero_le _, Nat.zero_le _⟩
theorem WP.callVi {T : Th} {μ ν : Mt} {pc idx n ci a N : Nat} {L : List (Nat × Value)} {sk st As : List Value} {M : Mm} {Q : Option Value → Mm → Prop} {QQ : Int32 → Mm → Prop} {T' : u_T} (hc : Cv μ.1 idx ν n) (hO : Ob T a (0, ci)) (hcl : vwCl[ci]? = some (ν.1, T', N)) (hn : As.length = n) (hrm : RmOK μ ν) (hst : (st.map fun v => v.category).sum ≤ 8) (hsk : sk = As.reverse ++ .ref a :: st) (hd : decode μ.2.2.1 pc = .ok (.invokevirtual idx, 3))
    (h : WPi T ν (.ref a :: As) M QQ) (hk : ∀ x M', QQ x M' → WP T μ (pc + 3) L (.int x :: st) M' Q) : WP T μ pc L sk M Q :=
  WP.callV hc hO hcl hn hrm hst hsk hd h fun r M' ⟨x, hr, hq⟩ => by subst hr; exact hk x M' hq
theorem WP.callVl {T : Th} {μ ν : Mt} {pc idx n ci a N : Nat} {L : List (Nat × Value)} {sk st As : List Value} {M : Mm} {Q : Option Value → Mm → Prop} {QQ : Int64 → Mm → Prop} {T' : u_T} (hc : Cv μ.1 idx ν n) (hO : Ob T a (0, ci)) (hcl : vwCl[ci]? = some (ν.1, T', N)) (hn : As.length = n) (hrm : RmOK μ ν) (hst : (st.map fun v => v.category).sum ≤ 8) (hsk : sk = As.reverse ++ .ref a :: st) (hd : decode μ.2.2.1 pc = .ok (.invokevirtual idx, 3))
    (h : WPl T ν (.ref a :: As) M QQ) (hk : ∀ x M', QQ x M' → WP T μ (pc + 3) L (.long x :: st) M' Q) : WP T μ pc L sk M Q :=
  WP.callV hc hO hcl hn hrm hst hsk hd h fun r M' ⟨x, hr, hq⟩ => by subst hr; exact hk x M' hq
theorem WP.callVv {T : Th} {μ ν : Mt} {pc idx n ci a N : Nat} {L : List (Nat × Value)} {sk st As : List Value} {M : Mm} {Q : Option Value → Mm → Prop} {QQ : Mm → Prop} {T' : u_T} (hc : Cv μ.1 idx ν n) (hO : Ob T a (0, ci)) (hcl : vwCl[ci]? = some (ν.1, T', N)) (hn : As.length = n) (hrm : RmOK μ ν) (hst : (st.map fun v => v.category).sum ≤ 8) (hsk : sk = As.reverse ++ .ref a :: st) (hd : decode μ.2.2.1 pc = .ok (.invokevirtual idx, 3))
    (h : WPv T ν (.ref a :: As) M QQ) (hk : ∀ M', QQ M' → WP T μ (pc + 3) L st M' Q) : WP T μ pc L sk M Q :=
  WP.callV hc hO hcl hn hrm hst hsk hd h fun r M' ⟨hr, hq⟩ => by subst hr; exact hk M' hq
theorem WP.callSi {T : Th} {μ ν : Mt} {pc idx n : Nat} {L : List (Nat × Value)} {sk st As : List Value} {M : Mm} {Q : Option Value → Mm → Prop} {QQ : Int32 → Mm → Prop} (hc : Cst μ.1 idx ν n) (hn : As.length = n) (hrm : RmOK μ ν) (hst : (st.map fun v => v.category).sum ≤ 8) (hsk : sk = As.reverse ++ st) (hd : decode μ.2.2.1 pc = .ok (.invokestatic idx, 3))
    (h : WPi T ν As M QQ) (hk : ∀ x M', QQ x M' → WP T μ (pc + 3) L (.int x :: st) M' Q) : WP T μ pc L sk M Q :=
  WP.callS hc hn hrm hst hsk hd h fun r M' ⟨x, hr, hq⟩ => by subst hr; exact hk x M' hq
theorem WP.callSl {T : Th} {μ ν : Mt} {pc idx n : Nat} {L : List (Nat × Value)} {sk st As : List Value} {M : Mm} {Q : Option Value → Mm → Prop} {QQ : Int64 → Mm → Prop} (hc : Cst μ.1 idx ν n) (hn : As.length = n) (hrm : RmOK μ ν) (hst : (st.map fun v => v.category).sum ≤ 8) (hsk : sk = As.reverse ++ st) (hd : decode μ.2.2.1 pc = .ok (.invokestatic idx, 3))
    (h : WPl T ν As M QQ) (hk : ∀ x M', QQ x M' → WP T μ (pc + 3) L (.long x :: st) M' Q) : WP T μ pc L sk M Q :=
  WP.callS hc hn hrm hst hsk hd h fun r M' ⟨x, hr, hq⟩ => by subst hr; exact hk x M' hq
theorem WP.iconst {T : Th} {μ : Mt} {pc : Nat} {L : List (Nat × Value)} {st : List Value} {M : Mm} {Q : Option Value → Mm → Prop} {n : Int} {v : Int32} (hd : decode μ.2.2.1 pc = .ok (.iconst n, 1)) (hv : Int32.ofInt n = v) (h : WP T μ (pc + 1) L (.int v :: st) M Q) : WP T μ pc L st M Q := fun p e s m args below meth c H locs ls X hR hS hl => lv_iconst X.1 X.2.1 hd hv (h p e s m args below meth c H locs ls X hR hS hl)
theorem WP.bipush {T : Th} {μ : Mt} {pc : Nat} {L : List (Nat × Value)} {st : List Value} {M : Mm} {Q : Option Value → Mm → Prop} {n : Int} {v : Int32} (hd : decode μ.2.2.1 pc = .ok (.bipush n, 2)) (hv : (Int8.ofInt n).toInt32 = v) (h : WP T μ (pc + 2) L (.int v :: st) M Q) : WP T μ pc L st M Q := fun p e s m args below meth c H locs ls X hR hS hl => lv_bipush X.1 X.2.1 hd hv (h p e s m args below meth c H locs ls X hR hS hl)
theorem WP.sipush {T : Th} {μ : Mt} {pc : Nat} {L : List (Nat × Value)} {st : List Value} {M : Mm} {Q : Option Value → Mm → Prop} {n : Int} {v : Int32} (hd : decode μ.2.2.1 pc = .ok (.sipush n, 3)) (hv : (Int16.ofInt n).toInt32 = v) (h : WP T μ (pc + 3) L (.int v :: st) M Q) : WP T μ pc L st M Q := fun p e s m args below meth c H locs ls X hR hS hl => lv_sipush X.1 X.2.1 hd hv (h p e s m args below meth c H locs ls X hR hS hl)
theorem WP.lconst {T : Th} {μ : Mt} {pc : Nat} {L : List (Nat × Value)} {st : List Value} {M : Mm} {Q : Option Value → Mm → Prop} {n : Fin 2} {v : Int64} (hd : decode μ.2.2.1 pc = .ok (.lconst n, 1)) (hv : Int64.ofNat (n : Nat) = v) (h : WP T μ (pc + 1) L (.long v :: st) M Q) : WP T μ pc L st M Q := fun p e s m args below meth c H locs ls X hR hS hl => lv_lconst X.1 X.2.1 hd hv (h p e s m args below meth c H locs ls X hR hS hl)
theorem WP.ldc {T : Th} {μ : Mt} {pc : Nat} {L : List (Nat × Value)} {st : List Value} {M : Mm} {Q : Option Value → Mm → Prop} {k : Nat} {v : Int32} (hw : Cond.constant μ.1 k v ∈ wsA) (hd : decode μ.2.2.1 pc = .ok (.ldc k, 2)) (h : WP T μ (pc + 2) L (.int v :: st) M Q) : WP T μ pc L st M Q := fun p e s m args below meth c H locs ls X hR hS hl => lv_ldc X.1 X.2.1 X.2.2.2.2.1 (X.2.2.2.2.2.1 _ hw) hd (h p e s m args below meth c H locs ls X hR hS hl)
theorem WP.ldcw {T : Th} {μ : Mt} {pc : Nat} {L : List (Nat × Value)} {st : List Value} {M : Mm} {Q : Option Value → Mm → Prop} {k : Nat} {v : Int32} (hw : Cond.constant μ.1 k v ∈ wsA) (hd : decode μ.2.2.1 pc = .ok (.ldc_w k, 3)) (h : WP T μ (pc + 3) L (.int v :: st) M Q) : WP T μ pc L st M Q := fun p e s m args below meth c H locs ls X hR hS hl => lv_ldcw X.1 X.2.1 X.2.2.2.2.1 (X.2.2.2.2.2.1 _ hw) hd (h p e s m args below meth c H locs ls X hR hS hl)
theorem WP.ldc2 {T : Th} {μ : Mt} {pc : Nat} {L : List (Nat × Value)} {st : List Value} {M : Mm} {Q : Option Value → Mm → Prop} {k : Nat} {v : Int64} (hw : Cond.constantLong μ.1 k v ∈ wsA) (hd : decode μ.2.2.1 pc = .ok (.ldc2_w k, 3)) (h : WP T μ (pc + 3) L (.long v :: st) M Q) : WP T μ pc L st M Q := fun p e s m args below meth c H locs ls X hR hS hl => lv_ldc2 X.1 X.2.1 X.2.2.2.2.1 (X.2.2.2.2.2.1 _ hw) hd (h p e s m args below meth c H locs ls X hR hS hl)
theorem WP.iload_n {T : Th} {μ : Mt} {pc : Nat} {L : List (Nat × Value)} {st : List Value} {M : Mm} {Q : Option Value → Mm → Prop} {k : Fin 4} {i : Nat} {x : Int32} (j : Nat) (hd : decode μ.2.2.1 pc = .ok (.iload_n k, 1)) (hi : (k : Nat) = i) (hj : L[j]? = some (i, .int x)) (h : WP T μ (pc + 1) L (.int x :: st) M Q) : WP T μ pc L st M Q := fun p e s m args below meth c H locs ls X hR hS hl => lv_iload_n X.1 X.2.1 hd hi (lv_at hl j hj) (h p e s m args below meth c H locs ls X hR hS hl)
theorem WP.iload {T : Th} {μ : Mt} {pc : Nat} {L : List (Nat × Value)} {st : List Value} {M : Mm} {Q : Option Value → Mm → Prop} {i : Nat} {x : Int32} (j : Nat) (hd : decode μ.2.2.1 pc = .ok (.iload i, 2)) (hj : L[j]? = some (i, .int x)) (h : WP T μ (pc + 2) L (.int x :: st) M Q) : WP T μ pc L st M Q := fun p e s m args below meth c H locs ls X hR hS hl => lv_iload X.1 X.2.1 hd (lv_at hl j hj) (h p e s m args below meth c H locs ls X hR hS hl)
theorem WP.lload_n {T : Th} {μ : Mt} {pc : Nat} {L : List (Nat × Value)} {st : List Value} {M : Mm} {Q : Option Value → Mm → Prop} {k : Fin 4} {i : Nat} {x : Int64} (j : Nat) (hd : decode μ.2.2.1 pc = .ok (.lload_n k, 1)) (hi : (k : Nat) = i) (hj : L[j]? = some (i, .long x)) (h : WP T μ (pc + 1) L (.long x :: st) M Q) : WP T μ pc L st M Q := fun p e s m args below meth c H locs ls X hR hS hl => lv_lload_n X.1 X.2.1 hd hi (lv_at hl j hj) (h p e s m args below meth c H locs ls X hR hS hl)
theorem WP.lload {T : Th} {μ : Mt} {pc : Nat} {L : List (Nat × Value)} {st : List Value} {M : Mm} {Q : Option Value → Mm → Prop} {i : Nat} {x : Int64} (j : Nat) (hd : decode μ.2.2.1 pc = .ok (.lload i, 2)) (hj : L[j]? = some (i, .long x)) (h : WP T μ (pc + 2) L (.long x :: st) M Q) : WP T μ pc L st M Q := fun p e s m args below meth c H locs ls X hR hS hl => lv_lload X.1 X.2.1 hd (lv_at hl j hj) (h p e s m args below meth c H locs ls X hR hS hl)
theorem WP.aload_n {T : Th} {μ : Mt} {pc : Nat} {L : List (Nat × Value)} {st : List Value} {M : Mm} {Q : Option Value → Mm → Prop} {k : Fin 4} {i : Nat} {x : Nat} (j : Nat) (hd : decode μ.2.2.1 pc = .ok (.aload_n k, 1)) (hi : (k : Nat) = i) (hj : L[j]? = some (i, .ref x)) (h : WP T μ (pc + 1) L (.ref x :: st) M Q) : WP T μ pc L st M Q := fun p e s m args below meth c H locs ls X hR hS hl => lv_aload_n X.1 X.2.1 hd hi (lv_at hl j hj) (h p e s m args below meth c H locs ls X hR hS hl)
theorem WP.aload {T : Th} {μ : Mt} {pc : Nat} {L : List (Nat × Value)} {st : List Value} {M : Mm} {Q : Option Value → Mm → Prop} {i : Nat} {x : Nat} (j : Nat) (hd : decode μ.2.2.1 pc = .ok (.aload i, 2)) (hj : L[j]? = some (i, .ref x)) (h : WP T μ (pc + 2) L (.ref x :: st) M Q) : WP T μ pc L st M Q := fun p e s m args below meth c H locs ls X hR hS hl => lv_aload X.1 X.2.1 hd (lv_at hl j hj) (h p e s m args below meth c H locs ls X hR hS hl)
theorem WP.istore_n {T : Th} {μ : Mt} {pc : Nat} {L : List (Nat × Value)} {st : List Value} {M : Mm} {Q : Option Value → Mm → Prop} {k : Fin 4} {i : Nat} {x : Int32} {L2 : List (Nat × Value)} (hd : decode μ.2.2.1 pc = .ok (.istore_n k, 1)) (hi : (k : Nat) = i) (hn : i < μ.2.2.2.1) (hl2 : (i, Value.int x) :: L.filter (fun q => !(q.1 == i) && !(q.1 + 1 == i && q.2.category == 2)) = L2) (h : WP T μ (pc + 1) L2 st M Q) : WP T μ pc L (.int x :: st) M Q := fun p e s m args below meth c H locs ls X hR hS hl => lv_istore_n X.1 X.2.1 hd hi hl hn hl2 (fun ls hl => h p e s m args below meth c H locs ls X hR hS hl)
theorem WP.istore {T : Th} {μ : Mt} {pc : Nat} {L : List (Nat × Value)} {st : List Value} {M : Mm} {Q : Option Value → Mm → Prop} {i : Nat} {x : Int32} {L2 : List (Nat × Value)} (hd : decode μ.2.2.1 pc = .ok (.istore i, 2)) (hn : i < μ.2.2.2.1) (hl2 : (i, Value.int x) :: L.filter (fun q => !(q.1 == i) && !(q.1 + 1 == i && q.2.category == 2)) = L2) (h : WP T μ (pc + 2) L2 st M Q) : WP T μ pc L (.int x :: st) M Q := fun p e s m args below meth c H locs ls X hR hS hl => lv_istore X.1 X.2.1 hd hl hn hl2 (fun ls hl => h p e s m args below meth c H locs ls X hR hS hl)
theorem WP.astore_n {T : Th} {μ : Mt} {pc : Nat} {L : List (Nat × Value)} {st : List Value} {M : Mm} {Q : Option Value → Mm → Prop} {k : Fin 4} {i : Nat} {x : Nat} {L2 : List (Nat × Value)} (hd : decode μ.2.2.1 pc = .ok (.astore_n k, 1)) (hi : (k : Nat) = i) (hn : i < μ.2.2.2.1) (hl2 : (i, Value.ref x) :: L.filter (fun q => !(q.1 == i) && !(q.1 + 1 == i && q.2.category == 2)) = L2) (h : WP T μ (pc + 1) L2 st M Q) : WP T μ pc L (.ref x :: st) M Q := fun p e s m args below meth c H locs ls X hR hS hl => lv_astore_n X.1 X.2.1 hd hi hl hn hl2 (fun ls hl => h p e s m args below meth c H locs ls X hR hS hl)
theorem WP.astore {T : Th} {μ : Mt} {pc : Nat} {L : List (Nat × Value)} {st : List Value} {M : Mm} {Q : Option Value → Mm → Prop} {i : Nat} {x : Nat} {L2 : List (Nat × Value)} (hd : decode μ.2.2.1 pc = .ok (.astore i, 2)) (hn : i < μ.2.2.2.1) (hl2 : (i, Value.ref x) :: L.filter (fun q => !(q.1 == i) && !(q.1 + 1 == i && q.2.category == 2)) = L2) (h : WP T μ (pc + 2) L2 st M Q) : WP T μ pc L (.ref x :: st) M Q := fun p e s m args below meth c H locs ls X hR hS hl => lv_astore X.1 X.2.1 hd hl hn hl2 (fun ls hl => h p e s m args below meth c H locs ls X hR hS hl)
theorem WP.lstore_n {T : Th} {μ : Mt} {pc : Nat} {L : List (Nat × Value)} {st : List Value} {M : Mm} {Q : Option Value → Mm → Prop} {k : Fin 4} {i : Nat} {x : Int64} {L2 : List (Nat × Value)} (hd : decode μ.2.2.1 pc = .ok (.lstore_n k, 1)) (hi : (k : Nat) = i) (hn : i + 1 < μ.2.2.2.1) (hl2 : (i, Value.long x) :: L.filter (fun q => !(q.1 == i) && (!(q.1 == i + 1) && !(q.1 + 1 == i && q.2.category == 2))) = L2) (h : WP T μ (pc + 1) L2 st M Q) : WP T μ pc L (.long x :: st) M Q := fun p e s m args below meth c H locs ls X hR hS hl => lv_lstore_n X.1 X.2.1 hd hi hl hn hl2 (fun ls hl => h p e s m args below meth c H locs ls X hR hS hl)
theorem WP.lstore {T : Th} {μ : Mt} {pc : Nat} {L : List (Nat × Value)} {st : List Value} {M : Mm} {Q : Option Value → Mm → Prop} {i : Nat} {x : Int64} {L2 : List (Nat × Value)} (hd : decode μ.2.2.1 pc = .ok (.lstore i, 2)) (hn : i + 1 < μ.2.2.2.1) (hl2 : (i, Value.long x) :: L.filter (fun q => !(q.1 == i) && (!(q.1 == i + 1) && !(q.1 + 1 == i && q.2.category == 2))) = L2) (h : WP T μ (pc + 2) L2 st M Q) : WP T μ pc L (.long x :: st) M Q := fun p e s m args below meth c H locs ls X hR hS hl => lv_lstore X.1 X.2.1 hd hl hn hl2 (fun ls hl => h p e s m args below meth c H locs ls X hR hS hl)
theorem WP.iinc {T : Th} {μ : Mt} {pc : Nat} {L : List (Nat × Value)} {st : List Value} {M : Mm} {Q : Option Value → Mm → Prop} {i : Nat} {n : Int} {x v : Int32} {L2 : List (Nat × Value)} (j : Nat) (hd : decode μ.2.2.1 pc = .ok (.iinc i n, 3)) (hj : L[j]? = some (i, .int x)) (hv : x + Int32.ofInt n = v) (hn : i < μ.2.2.2.1) (hl2 : (i, Value.int v) :: L.filter (fun q => !(q.1 == i) && !(q.1 + 1 == i && q.2.category == 2)) = L2) (h : WP T μ (pc + 3) L2 st M Q) : WP T μ pc L st M Q := fun p e s m args below meth c H locs ls X hR hS hl => lv_iinc X.1 X.2.1 hd hl hj hv hn hl2 (fun ls hl => h p e s m args below meth c H locs ls X hR hS hl)
theorem WP.sub {T : Th} {μ : Mt} {pc : Nat} {L : List (Nat × Value)} {st : List Value} {M : Mm} {Q : Option Value → Mm → Prop} {L2 : List (Nat × Value)} (ks : List Nat) (hk : lv_pick L ks = L2) (h : WP T μ pc L2 st M Q) : WP T μ pc L st M Q := fun p e s m args below meth c H locs ls X hR hS hl => h p e s m args below meth c H locs ls X hR hS (lv_sub hl ks hk)
theorem WP.iadd {T : Th} {μ : Mt} {pc : Nat} {L : List (Nat × Value)} {st : List Value} {M : Mm} {Q : Option Value → Mm → Prop} {x y : Int32} (hd : decode μ.2.2.1 pc = .ok (.iadd, 1)) (h : WP T μ (pc + 1) L (.int (x + y) :: st) M Q) : WP T μ pc L (.int y :: .int x :: st) M Q := fun p e s m args below meth c H locs ls X hR hS hl => lv_iadd X.1 X.2.1 hd (h p e s m args below meth c H locs ls X hR hS hl)
theorem WP.isub {T : Th} {μ : Mt} {pc : Nat} {L : List (Nat × Value)} {st : List Value} {M : Mm} {Q : Option Value → Mm → Prop} {x y : Int32} (hd : decode μ.2.2.1 pc = .ok (.isub, 1)) (h : WP T μ (pc + 1) L (.int (x - y) :: st) M Q) : WP T μ pc L (.int y :: .int x :: st) M Q := fun p e s m args below meth c H locs ls X hR hS hl => lv_isub X.1 X.2.1 hd (h p e s m args below meth c H locs ls X hR hS hl)
theorem WP.imul {T : Th} {μ : Mt} {pc : Nat} {L : List (Nat × Value)} {st : List Value} {M : Mm} {Q : Option Value → Mm → Prop} {x y : Int32} (hd : decode μ.2.2.1 pc = .ok (.imul, 1)) (h : WP T μ (pc + 1) L (.int (x * y) :: st) M Q) : WP T μ pc L (.int y :: .int x :: st) M Q := fun p e s m args below meth c H locs ls X hR hS hl => lv_imul X.1 X.2.1 hd (h p e s m args below meth c H locs ls X hR hS hl)
theorem WP.iand {T : Th} {μ : Mt} {pc : Nat} {L : List (Nat × Value)} {st : List Value} {M : Mm} {Q : Option Value → Mm → Prop} {x y : Int32} (hd : decode μ.2.2.1 pc = .ok (.iand, 1)) (h : WP T μ (pc + 1) L (.int (x &&& y) :: st) M Q) : WP T μ pc L (.int y :: .int x :: st) M Q := fun p e s m args below meth c H locs ls X hR hS hl => lv_iand X.1 X.2.1 hd (h p e s m args below meth c H locs ls X hR hS hl)
theorem WP.ior {T : Th} {μ : Mt} {pc : Nat} {L : List (Nat × Value)} {st : List Value} {M : Mm} {Q : Option Value → Mm → Prop} {x y : Int32} (hd : decode μ.2.2.1 pc = .ok (.ior, 1)) (h : WP T μ (pc + 1) L (.int (x ||| y) :: st) M Q) : WP T μ pc L (.int y :: .int x :: st) M Q := fun p e s m args below meth c H locs ls X hR hS hl => lv_ior X.1 X.2.1 hd (h p e s m args below meth c H locs ls X hR hS hl)
theorem WP.ixor {T : Th} {μ : Mt} {pc : Nat} {L : List (Nat × Value)} {st : List Value} {M : Mm} {Q : Option Value → Mm → Prop} {x y : Int32} (hd : decode μ.2.2.1 pc = .ok (.ixor, 1)) (h : WP T μ (pc + 1) L (.int (x ^^^ y) :: st) M Q) : WP T μ pc L (.int y :: .int x :: st) M Q := fun p e s m args below meth c H locs ls X hR hS hl => lv_ixor X.1 X.2.1 hd (h p e s m args below meth c H locs ls X hR hS hl)
theorem WP.ishl {T : Th} {μ : Mt} {pc : Nat} {L : List (Nat × Value)} {st : List Value} {M : Mm} {Q : Option Value → Mm → Prop} {x y : Int32} (hd : decode μ.2.2.1 pc = .ok (.ishl, 1)) (h : WP T μ (pc + 1) L (.int (x <<< (y &&& 31)) :: st) M Q) : WP T μ pc L (.int y :: .int x :: st) M Q := fun p e s m args below meth c H locs ls X hR hS hl => lv_ishl X.1 X.2.1 hd (h p e s m args below meth c H locs ls X hR hS hl)
theorem WP.ishr {T : Th} {μ : Mt} {pc : Nat} {L : List (Nat × Value)} {st : List Value} {M : Mm} {Q : Option Value → Mm → Prop} {x y : Int32} (hd : decode μ.2.2.1 pc = .ok (.ishr, 1)) (h : WP T μ (pc + 1) L (.int (x >>> (y &&& 31)) :: st) M Q) : WP T μ pc L (.int y :: .int x :: st) M Q := fun p e s m args below meth c H locs ls X hR hS hl => lv_ishr X.1 X.2.1 hd (h p e s m args below meth c H locs ls X hR hS hl)
theorem WP.iushr {T : Th} {μ : Mt} {pc : Nat} {L : List (Nat × Value)} {st : List Value} {M : Mm} {Q : Option Value → Mm → Prop} {x y : Int32} (hd : decode μ.2.2.1 pc = .ok (.iushr, 1)) (h : WP T μ (pc + 1) L (.int (x.toUInt32 >>> (y.toUInt32 &&& Int32.toUInt32 31)).toInt32 :: st) M Q) : WP T μ pc L (.int y :: .int x :: st) M Q := fun p e s m args below meth c H locs ls X hR hS hl => lv_iushr X.1 X.2.1 hd rfl (h p e s m args below meth c H locs ls X hR hS hl)
theorem WP.ineg {T : Th} {μ : Mt} {pc : Nat} {L : List (Nat × Value)} {st : List Value} {M : Mm} {Q : Option Value → Mm → Prop} {x : Int32} (hd : decode μ.2.2.1 pc = .ok (.ineg, 1)) (h : WP T μ (pc + 1) L (.int (-x) :: st) M Q) : WP T μ pc L (.int x :: st) M Q := fun p e s m args below meth c H locs ls X hR hS hl => lv_ineg X.1 X.2.1 hd (h p e s m args below meth c H locs ls X hR hS hl)
theorem WP.idiv {T : Th} {μ : Mt} {pc : Nat} {L : List (Nat × Value)} {st : List Value} {M : Mm} {Q : Option Value → Mm → Prop} {x y : Int32} (hd : decode μ.2.2.1 pc = .ok (.idiv, 1)) (hne : ¬ y = 0) (h : WP T μ (pc + 1) L (.int (x / y) :: st) M Q) : WP T μ pc L (.int y :: .int x :: st) M Q := fun p e s m args below meth c H locs ls X hR hS hl => lv_idiv X.1 X.2.1 hd hne (h p e s m args below meth c H locs ls X hR hS hl)
theorem WP.irem {T : Th} {μ : Mt} {pc : Nat} {L : List (Nat × Value)} {st : List Value} {M : Mm} {Q : Option Value → Mm → Prop} {x y : Int32} (hd : decode μ.2.2.1 pc = .ok (.irem, 1)) (hne : ¬ y = 0) (h : WP T μ (pc + 1) L (.int (x - x / y * y) :: st) M Q) : WP T μ pc L (.int y :: .int x :: st) M Q := fun p e s m args below meth c H locs ls X hR hS hl => lv_irem X.1 X.2.1 hd hne (h p e s m args below meth c H locs ls X hR hS hl)
theorem WP.ladd {T : Th} {μ : Mt} {pc : Nat} {L : List (Nat × Value)} {st : List Value} {M : Mm} {Q : Option Value → Mm → Prop} {x y : Int64} (hd : decode μ.2.2.1 pc = .ok (.ladd, 1)) (h : WP T μ (pc + 1) L (.long (x + y) :: st) M Q) : WP T μ pc L (.long y :: .long x :: st) M Q := fun p e s m args below meth c H locs ls X hR hS hl => lv_ladd X.1 X.2.1 hd (h p e s m args below meth c H locs ls X hR hS hl)
theorem WP.lmul {T : Th} {μ : Mt} {pc : Nat} {L : List (Nat × Value)} {st : List Value} {M : Mm} {Q : Option Value → Mm → Prop} {x y : Int64} (hd : decode μ.2.2.1 pc = .ok (.lmul, 1)) (h : WP T μ (pc + 1) L (.long (x * y) :: st) M Q) : WP T μ pc L (.long y :: .long x :: st) M Q := fun p e s m args below meth c H locs ls X hR hS hl => lv_lmul X.1 X.2.1 hd (h p e s m args below meth c H locs ls X hR hS hl)
theorem WP.ldiv {T : Th} {μ : Mt} {pc : Nat} {L : List (Nat × Value)} {st : List Value} {M : Mm} {Q : Option Value → Mm → Prop} {x y : Int64} (hd : decode μ.2.2.1 pc = .ok (.ldiv, 1)) (hne : ¬ y = 0) (h : WP T μ (pc + 1) L (.long (x / y) :: st) M Q) : WP T μ pc L (.long y :: .long x :: st) M Q := fun p e s m args below meth c H locs ls X hR hS hl => lv_ldiv X.1 X.2.1 hd hne (h p e s m args below meth c H locs ls X hR hS hl)
theorem WP.lrem {T : Th} {μ : Mt} {pc : Nat} {L : List (Nat × Value)} {st : List Value} {M : Mm} {Q : Option Value → Mm → Prop} {x y : Int64} (hd : decode μ.2.2.1 pc = .ok (.lrem, 1)) (hne : ¬ y = 0) (h : WP T μ (pc + 1) L (.long (x - x / y * y) :: st) M Q) : WP T μ pc L (.long y :: .long x :: st) M Q := fun p e s m args below meth c H locs ls X hR hS hl => lv_lrem X.1 X.2.1 hd hne (h p e s m args below meth c H locs ls X hR hS hl)
theorem WP.i2l {T : Th} {μ : Mt} {pc : Nat} {L : List (Nat × Value)} {st : List Value} {M : Mm} {Q : Option Value → Mm → Prop} {x : Int32} (hd : decode μ.2.2.1 pc = .ok (.i2l, 1)) (h : WP T μ (pc + 1) L (.long x.toInt64 :: st) M Q) : WP T μ pc L (.int x :: st) M Q := fun p e s m args below meth c H locs ls X hR hS hl => lv_i2l X.1 X.2.1 hd rfl (h p e s m args below meth c H locs ls X hR hS hl)
theorem WP.i2b {T : Th} {μ : Mt} {pc : Nat} {L : List (Nat × Value)} {st : List Value} {M : Mm} {Q : Option Value → Mm → Prop} {x : Int32} (hd : decode μ.2.2.1 pc = .ok (.i2b, 1)) (h : WP T μ (pc + 1) L (.int x.toInt8.toInt32 :: st) M Q) : WP T μ pc L (.int x :: st) M Q := fun p e s m args below meth c H locs ls X hR hS hl => lv_i2b X.1 X.2.1 hd rfl (h p e s m args below meth c H locs ls X hR hS hl)
theorem WP.lcmp {T : Th} {μ : Mt} {pc : Nat} {L : List (Nat × Value)} {st : List Value} {M : Mm} {Q : Option Value → Mm → Prop} {x y : Int64} (hd : decode μ.2.2.1 pc = .ok (.lcmp, 1)) (h : WP T μ (pc + 1) L (.int (lg_cmp x y) :: st) M Q) : WP T μ pc L (.long y :: .long x :: st) M Q := fun p e s m args below meth c H locs ls X hR hS hl => W.lcmp X.1 X.2.1 hd (h p e s m args below meth c H locs ls X hR hS hl)
theorem WP.dup {T : Th} {μ : Mt} {pc : Nat} {L : List (Nat × Value)} {st : List Value} {M : Mm} {Q : Option Value → Mm → Prop} {v : Value} (hd : decode μ.2.2.1 pc = .ok (.dup, 1)) (hv : v.category = 1) (h : WP T μ (pc + 1) L (v :: v :: st) M Q) : WP T μ pc L (v :: st) M Q := fun p e s m args below meth c H locs ls X hR hS hl => lv_dup X.1 X.2.1 hd hv (h p e s m args below meth c H locs ls X hR hS hl)
theorem WP.pop {T : Th} {μ : Mt} {pc : Nat} {L : List (Nat × Value)} {st : List Value} {M : Mm} {Q : Option Value → Mm → Prop} {v : Value} (hd : decode μ.2.2.1 pc = .ok (.pop, 1)) (hv : v.category = 1) (h : WP T μ (pc + 1) L st M Q) : WP T μ pc L (v :: st) M Q := fun p e s m args below meth c H locs ls X hR hS hl => lv_pop X.1 X.2.1 hd hv (h p e s m args below meth c H locs ls X hR hS hl)
theorem WP.dup2 {T : Th} {μ : Mt} {pc : Nat} {L : List (Nat × Value)} {st : List Value} {M : Mm} {Q : Option Value → Mm → Prop} {v w : Value} (hd : decode μ.2.2.1 pc = .ok (.dup2, 1)) (hv : v.category = 1) (hw : w.category = 1) (h : WP T μ (pc + 1) L (v :: w :: v :: w :: st) M Q) : WP T μ pc L (v :: w :: st) M Q := fun p e s m args below meth c H locs ls X hR hS hl => lv_dup2_11 X.1 X.2.1 hd hv hw (h p e s m args below meth c H locs ls X hR hS hl)
theorem WP.goto {T : Th} {μ : Mt} {pc : Nat} {L : List (Nat × Value)} {st : List Value} {M : Mm} {Q : Option Value → Mm → Prop} {off : Int} {tgt : Nat} (hd : decode μ.2.2.1 pc = .ok (.goto off, 3)) (ht : (pc : Int) + off = (tgt : Int)) (h : WP T μ tgt L st M Q) : WP T μ pc L st M Q := fun p e s m args below meth c H locs ls X hR hS hl => lv_goto X.1 X.2.1 hd ht (h p e s m args below meth c H locs ls X hR hS hl)
theorem WP.icmp_eq {T : Th} {μ : Mt} {pc : Nat} {L : List (Nat × Value)} {st : List Value} {M : Mm} {Q : Option Value → Mm → Prop} {x y : Int32} {off : Int} {tgt : Nat} (hd : decode μ.2.2.1 pc = .ok (.if_icmp .eq off, 3)) (ht : (pc : Int) + off = (tgt : Int)) (h1 : x = y → WP T μ tgt L st M Q) (h2 : ¬ x = y → WP T μ (pc + 3) L st M Q) : WP T μ pc L (.int y :: .int x :: st) M Q := fun p e s m args below meth c H locs ls X hR hS hl => lv_icmp_eq X.1 X.2.1 hd ht (fun z => h1 z p e s m args below meth c H locs ls X hR hS hl) (fun z => h2 z p e s m args below meth c H locs ls X hR hS hl)
theorem WP.if_eq {T : Th} {μ : Mt} {pc : Nat} {L : List (Nat × Value)} {st : List Value} {M : Mm} {Q : Option Value → Mm → Prop} {x : Int32} {off : Int} {tgt : Nat} (hd : decode μ.2.2.1 pc = .ok (.ifCond .eq off, 3)) (ht : (pc : Int) + off = (tgt : Int)) (h1 : x = 0 → WP T μ tgt L st M Q) (h2 : ¬ x = 0 → WP T μ (pc + 3) L st M Q) : WP T μ pc L (.int x :: st) M Q := fun p e s m args below meth c H locs ls X hR hS hl => lv_if_eq X.1 X.2.1 hd ht (fun z => h1 z p e s m args below meth c H locs ls X hR hS hl) (fun z => h2 z p e s m args below meth c H locs ls X hR hS hl)
theorem WP.icmp_ne {T : Th} {μ : Mt} {pc : Nat} {L : List (Nat × Value)} {st : List Value} {M : Mm} {Q : Option Value → Mm → Prop} {x y : Int32} {off : Int} {tgt : Nat} (hd : decode μ.2.2.1 pc = .ok (.if_icmp .ne off, 3)) (ht : (pc : Int) + off = (tgt : Int)) (h1 : ¬ x = y → WP T μ tgt L st M Q) (h2 : x = y → WP T μ (pc + 3) L st M Q) : WP T μ pc L (.int y :: .int x :: st) M Q := fun p e s m args below meth c H locs ls X hR hS hl => lv_icmp_ne X.1 X.2.1 hd ht (fun z => h1 z p e s m args below meth c H locs ls X hR hS hl) (fun z => h2 z p e s m args below meth c H locs ls X hR hS hl)
theorem WP.if_ne {T : Th} {μ : Mt} {pc : Nat} {L : List (Nat × Value)} {st : List Value} {M : Mm} {Q : Option Value → Mm → Prop} {x : Int32} {off : Int} {tgt : Nat} (hd : decode μ.2.2.1 pc = .ok (.ifCond .ne off, 3)) (ht : (pc : Int) + off = (tgt : Int)) (h1 : ¬ x = 0 → WP T μ tgt L st M Q) (h2 : x = 0 → WP T μ (pc + 3) L st M Q) : WP T μ pc L (.int x :: st) M Q := fun p e s m args below meth c H locs ls X hR hS hl => lv_if_ne X.1 X.2.1 hd ht (fun z => h1 z p e s m args below meth c H locs ls X hR hS hl) (fun z => h2 z p e s m args below meth c H locs ls X hR hS hl)
theorem WP.icmp_lt {T : Th} {μ : Mt} {pc : Nat} {L : List (Nat × Value)} {st : List Value} {M : Mm} {Q : Option Value → Mm → Prop} {x y : Int32} {off : Int} {tgt : Nat} (hd : decode μ.2.2.1 pc = .ok (.if_icmp .lt off, 3)) (ht : (pc : Int) + off = (tgt : Int)) (h1 : x < y → WP T μ tgt L st M Q) (h2 : ¬ x < y → WP T μ (pc + 3) L st M Q) : WP T μ pc L (.int y :: .int x :: st) M Q := fun p e s m args below meth c H locs ls X hR hS hl => lv_icmp_lt X.1 X.2.1 hd ht (fun z => h1 z p e s m args below meth c H locs ls X hR hS hl) (fun z => h2 z p e s m args below meth c H locs ls X hR hS hl)
theorem WP.if_lt {T : Th} {μ : Mt} {pc : Nat} {L : List (Nat × Value)} {st : List Value} {M : Mm} {Q : Option Value → Mm → Prop} {x : Int32} {off : Int} {tgt : Nat} (hd : decode μ.2.2.1 pc = .ok (.ifCond .lt off, 3)) (ht : (pc : Int) + off = (tgt : Int)) (h1 : x < 0 → WP T μ tgt L st M Q) (h2 : ¬ x < 0 → WP T μ (pc + 3) L st M Q) : WP T μ pc L (.int x :: st) M Q := fun p e s m args below meth c H locs ls X hR hS hl => lv_if_lt X.1 X.2.1 hd ht (fun z => h1 z p e s m args below meth c H locs ls X hR hS hl) (fun z => h2 z p e s m args below meth c H locs ls X hR hS hl)
theorem WP.icmp_ge {T : Th} {μ : Mt} {pc : Nat} {L : List (Nat × Value)} {st : List Value} {M : Mm} {Q : Option Value → Mm → Prop} {x y : Int32} {off : Int} {tgt : Nat} (hd : decode μ.2.2.1 pc = .ok (.if_icmp .ge off, 3)) (ht : (pc : Int) + off = (tgt : Int)) (h1 : y ≤ x → WP T μ tgt L st M Q) (h2 : ¬ y ≤ x → WP T μ (pc + 3) L st M Q) : WP T μ pc L (.int y :: .int x :: st) M Q := fun p e s m args below meth c H locs ls X hR hS hl => lv_icmp_ge X.1 X.2.1 hd ht (fun z => h1 z p e s m args below meth c H locs ls X hR hS hl) (fun z => h2 z p e s m args below meth c H locs ls X hR hS hl)
theorem WP.if_ge {T : Th} {μ : Mt} {pc : Nat} {L : List (Nat × Value)} {st : List Value} {M : Mm} {Q : Option Value → Mm → Prop} {x : Int32} {off : Int} {tgt : Nat} (hd : decode μ.2.2.1 pc = .ok (.ifCond .ge off, 3)) (ht : (pc : Int) + off = (tgt : Int)) (h1 : 0 ≤ x → WP T μ tgt L st M Q) (h2 : ¬ 0 ≤ x → WP T μ (pc + 3) L st M Q) : WP T μ pc L (.int x :: st) M Q := fun p e s m args below meth c H locs ls X hR hS hl => lv_if_ge X.1 X.2.1 hd ht (fun z => h1 z p e s m args below meth c H locs ls X hR hS hl) (fun z => h2 z p e s m args below meth c H locs ls X hR hS hl)
theorem WP.icmp_gt {T : Th} {μ : Mt} {pc : Nat} {L : List (Nat × Value)} {st : List Value} {M : Mm} {Q : Option Value → Mm → Prop} {x y : Int32} {off : Int} {tgt : Nat} (hd : decode μ.2.2.1 pc = .ok (.if_icmp .gt off, 3)) (ht : (pc : Int) + off = (tgt : Int)) (h1 : y < x → WP T μ tgt L st M Q) (h2 : ¬ y < x → WP T μ (pc + 3) L st M Q) : WP T μ pc L (.int y :: .int x :: st) M Q := fun p e s m args below meth c H locs ls X hR hS hl => lv_icmp_gt X.1 X.2.1 hd ht (fun z => h1 z p e s m args below meth c H locs ls X hR hS hl) (fun z => h2 z p e s m args below meth c H locs ls X hR hS hl)
theorem WP.if_gt {T : Th} {μ : Mt} {pc : Nat} {L : List (Nat × Value)} {st : List Value} {M : Mm} {Q : Option Value → Mm → Prop} {x : Int32} {off : Int} {tgt : Nat} (hd : decode μ.2.2.1 pc = .ok (.ifCond .gt off, 3)) (ht : (pc : Int) + off = (tgt : Int)) (h1 : 0 < x → WP T μ tgt L st M Q) (h2 : ¬ 0 < x → WP T μ (pc + 3) L st M Q) : WP T μ pc L (.int x :: st) M Q := fun p e s m args below meth c H locs ls X hR hS hl => lv_if_gt X.1 X.2.1 hd ht (fun z => h1 z p e s m args below meth c H locs ls X hR hS hl) (fun z => h2 z p e s m args below meth c H locs ls X hR hS hl)
theorem WP.icmp_le {T : Th} {μ : Mt} {pc : Nat} {L : List (Nat × Value)} {st : List Value} {M : Mm} {Q : Option Value → Mm → Prop} {x y : Int32} {off : Int} {tgt : Nat} (hd : decode μ.2.2.1 pc = .ok (.if_icmp .le off, 3)) (ht : (pc : Int) + off = (tgt : Int)) (h1 : x ≤ y → WP T μ tgt L st M Q) (h2 : ¬ x ≤ y → WP T μ (pc + 3) L st M Q) : WP T μ pc L (.int y :: .int x :: st) M Q := fun p e s m args below meth c H locs ls X hR hS hl => lv_icmp_le X.1 X.2.1 hd ht (fun z => h1 z p e s m args below meth c H locs ls X hR hS hl) (fun z => h2 z p e s m args below meth c H locs ls X hR hS hl)
theorem WP.if_le {T : Th} {μ : Mt} {pc : Nat} {L : List (Nat × Value)} {st : List Value} {M : Mm} {Q : Option Value → Mm → Prop} {x : Int32} {off : Int} {tgt : Nat} (hd : decode μ.2.2.1 pc = .ok (.ifCond .le off, 3)) (ht : (pc : Int) + off = (tgt : Int)) (h1 : x ≤ 0 → WP T μ tgt L st M Q) (h2 : ¬ x ≤ 0 → WP T μ (pc + 3) L st M Q) : WP T μ pc L (.int x :: st) M Q := fun p e s m args below meth c H locs ls X hR hS hl => lv_if_le X.1 X.2.1 hd ht (fun z => h1 z p e s m args below meth c H locs ls X hR hS hl) (fun z => h2 z p e s m args below meth c H locs ls X hR hS hl)
theorem WP.ifnull {T : Th} {μ : Mt} {pc : Nat} {L : List (Nat × Value)} {st : List Value} {M : Mm} {Q : Option Value → Mm → Prop} {x : Nat} {off : Int} (hd : decode μ.2.2.1 pc = .ok (.ifnull off, 3)) (h : WP T μ (pc + 3) L st M Q) : WP T μ pc L (.ref x :: st) M Q := fun p e s m args below meth c H locs ls X hR hS hl => lv_ifnull X.1 X.2.1 hd (h p e s m args below meth c H locs ls X hR hS hl)
theorem WP.ifnonnull {T : Th} {μ : Mt} {pc : Nat} {L : List (Nat × Value)} {st : List Value} {M : Mm} {Q : Option Value → Mm → Prop} {x : Nat} {off : Int} {tgt : Nat} (hd : decode μ.2.2.1 pc = .ok (.ifnonnull off, 3)) (ht : (pc : Int) + off = (tgt : Int)) (h : WP T μ tgt L st M Q) : WP T μ pc L (.ref x :: st) M Q := fun p e s m args below meth c H locs ls X hR hS hl => lv_ifnonnull X.1 X.2.1 hd ht (h p e s m args below meth c H locs ls X hR hS hl)
theorem WP.tabIn {T : Th} {μ : Mt} {pc : Nat} {L : List (Nat × Value)} {st : List Value} {M : Mm} {Q : Option Value → Mm → Prop} {dflt lo hi : Int} {offs : Array Int} {len : Nat} {x : Int32} {off : Int} {tgt : Nat} (hd : decode μ.2.2.1 pc = .ok (.tableswitch dflt lo hi offs, len)) (h1 : ¬ x.toInt < lo) (h2 : ¬ hi < x.toInt) (ho : offs[(x.toInt - lo).toNat]? = some off) (ht : (pc : Int) + off = (tgt : Int)) (h : WP T μ tgt L st M Q) : WP T μ pc L (.int x :: st) M Q := fun p e s m args below meth c H locs ls X hR hS hl => lv_tableIn X.1 X.2.1 hd h1 h2 ho ht (h p e s m args below meth c H locs ls X hR hS hl)
theorem WP.tabOut {T : Th} {μ : Mt} {pc : Nat} {L : List (Nat × Value)} {st : List Value} {M : Mm} {Q : Option Value → Mm → Prop} {dflt lo hi : Int} {offs : Array Int} {len : Nat} {x : Int32} {tgt : Nat} (hd : decode μ.2.2.1 pc = .ok (.tableswitch dflt lo hi offs, len)) (h1 : x.toInt < lo ∨ hi < x.toInt) (ht : (pc : Int) + dflt = (tgt : Int)) (h : WP T μ tgt L st M Q) : WP T μ pc L (.int x :: st) M Q := fun p e s m args below meth c H locs ls X hR hS hl => lv_tableOut X.1 X.2.1 hd h1 ht (h p e s m args below meth c H locs ls X hR hS hl)
theorem WP.mmax {T : Th} {μ : Mt} {pc : Nat} {L : List (Nat × Value)} {st : List Value} {M : Mm} {Q : Option Value → Mm → Prop} {k : Nat} {x y : Int32} (hw : Cond.methodLink μ.1 k Lib.Math.max.name ∈ wsA ∧ Cond.static Lib.Math.max.name ∈ wsA ∧ Cond.initialized "java/lang/Math" ∈ wsA ∧ Cond.code Lib.Math.max.name Lib.Math.max.code 2 (some .int) ∈ wsA) (hf : 1 ≤ (mRm μ).frames) (hlo : (st.map fun v => v.category).sum + 13 ≤ (mRm μ).locals) (hd : decode μ.2.2.1 pc = .ok (.invokestatic k, 3)) (h : WP T μ (pc + 3) L (.int (if x < y then y else x) :: st) M Q) : WP T μ pc L (.int y :: .int x :: st) M Q := fun p e s m args below meth c H locs ls X hR hS hl => va_mmax X.1 X.2.1 (X.2.2.2.1.trans hl.1.symm) X.2.2.2.2.1 (X.2.2.2.2.2.1 _ hw.1) (X.2.2.2.2.2.1 _ hw.2.1) (X.2.2.2.2.2.1 _ hw.2.2.1) (X.2.2.2.2.2.1 _ hw.2.2.2) hf hlo (Nat.zero_le _) (Nat.zero_le _) hd (h p e s m args below meth c H locs ls X hR hS hl)
theorem WP.mmin {T : Th} {μ : Mt} {pc : Nat} {L : List (Nat × Value)} {st : List Value} {M : Mm} {Q : Option Value → Mm → Prop} {k : Nat} {x y : Int32} (hw : Cond.methodLink μ.1 k Lib.Math.min.name ∈ wsA ∧ Cond.static Lib.Math.min.name ∈ wsA ∧ Cond.initialized "java/lang/Math" ∈ wsA ∧ Cond.code Lib.Math.min.name Lib.Math.min.code 2 (some .int) ∈ wsA) (hf : 1 ≤ (mRm μ).frames) (hlo : (st.map fun v => v.category).sum + 13 ≤ (mRm μ).locals) (hd : decode μ.2.2.1 pc = .ok (.invokestatic k, 3)) (h : WP T μ (pc + 3) L (.int (if y < x then y else x) :: st) M Q) : WP T μ pc L (.int y :: .int x :: st) M Q := fun p e s m args below meth c H locs ls X hR hS hl => va_mmin X.1 X.2.1 (X.2.2.2.1.trans hl.1.symm) X.2.2.2.2.1 (X.2.2.2.2.2.1 _ hw.1) (X.2.2.2.2.2.1 _ hw.2.1) (X.2.2.2.2.2.1 _ hw.2.2.1) (X.2.2.2.2.2.1 _ hw.2.2.2) hf hlo (Nat.zero_le _) (Nat.zero_le _) hd (h p e s m args below meth c H locs ls X hR hS hl)
theorem WP.mmaxl {T : Th} {μ : Mt} {pc : Nat} {L : List (Nat × Value)} {st : List Value} {M : Mm} {Q : Option Value → Mm → Prop} {k : Nat} {x y : Int64} (hw : Cond.methodLink μ.1 k Lib.MathLoose.max_long.x ∈ wsA ∧ Cond.static Lib.MathLoose.max_long.x ∈ wsA ∧ Cond.initialized "java/lang/Math" ∈ wsA ∧ Cond.code Lib.MathLoose.max_long.x Lib.MathLoose.max_long.code 4 (some .long) ∈ wsA) (hf : 1 ≤ (mRm μ).frames) (hlo : (st.map fun v => v.category).sum + 15 ≤ (mRm μ).locals) (hd : decode μ.2.2.1 pc = .ok (.invokestatic k, 3)) (h : WP T μ (pc + 3) L (.long (if y < x then x else y) :: st) M Q) : WP T μ pc L (.long y :: .long x :: st) M Q := fun p e s m args below meth c H locs ls X hR hS hl => va_mmax_long X.1 X.2.1 (X.2.2.2.1.trans hl.1.symm) X.2.2.2.2.1 (X.2.2.2.2.2.1 _ hw.1) (X.2.2.2.2.2.1 _ hw.2.1) (X.2.2.2.2.2.1 _ hw.2.2.1) (X.2.2.2.2.2.1 _ hw.2.2.2) hf hlo (Nat.zero_le _) (Nat.zero_le _) hd (h p e s m args below meth c H locs ls X hR hS hl)
theorem WP.topi {T : Th} {μ : Mt} {pc : Nat} {L : List (Nat × Value)} {st : List Value} {M : Mm} {Q : Option Value → Mm → Prop} {x : Int32} (h : ∀ y : Int32, y = x → WP T μ pc L (.int y :: st) M Q) : WP T μ pc L (.int x :: st) M Q := h x rfl
theorem WP.topl {T : Th} {μ : Mt} {pc : Nat} {L : List (Nat × Value)} {st : List Value} {M : Mm} {Q : Option Value → Mm → Prop} {x : Int64} (h : ∀ y : Int64, y = x → WP T μ pc L (.long y :: st) M Q) : WP T μ pc L (.long x :: st) M Q := h x rfl
theorem WP.iret {T : Th} {μ : Mt} {pc : Nat} {L : List (Nat × Value)} {M : Mm} {Q : Option Value → Mm → Prop} {x : Int32} (hr : μ.2.2.2.2.1 = some .int) (hd : decode μ.2.2.1 pc = .ok (.ireturn, 1)) (h : Q (some (.int x)) M) : WP T μ pc L [.int x] M Q := by
  intro p e s m args below meth c H locs ls X hR hS hl
  have hlocks : meth.locks = false := X.2.2.2.2.2.2.1
  exact W.iret X.1 X.2.1 (X.2.2.1.trans hr) (fun t ht hW => ⟨⟨_, M, rfl, h, by rw [ht]; exact hR, va_K.moved hW.alike X.2.2.2.2.2.2.2⟩, hS.F ht⟩) hS.2.2 hd
theorem WP.zret {T : Th} {μ : Mt} {pc : Nat} {L : List (Nat × Value)} {M : Mm} {Q : Option Value → Mm → Prop} {x : Int32} (hr : μ.2.2.2.2.1 = some .boolean) (hv : x = 0 ∨ x = 1) (hd : decode μ.2.2.1 pc = .ok (.ireturn, 1)) (h : Q (some (.int x)) M) : WP T μ pc L [.int x] M Q := by
  intro p e s m args below meth c H locs ls X hR hS hl
  have hlocks : meth.locks = false := X.2.2.2.2.2.2.1
  exact W.zret X.1 X.2.1 (X.2.2.1.trans hr) (by rcases hv with h9 | h9 <;> subst h9 <;> decide) (fun t ht hW => ⟨⟨_, M, rfl, h, by rw [ht]; exact hR, va_K.moved hW.alike X.2.2.2.2.2.2.2⟩, hS.F ht⟩) hS.2.2 hd
theorem WP.lret {T : Th} {μ : Mt} {pc : Nat} {L : List (Nat × Value)} {M : Mm} {Q : Option Value → Mm → Prop} {x : Int64} (hr : μ.2.2.2.2.1 = some .long) (hd : decode μ.2.2.1 pc = .ok (.lreturn, 1)) (h : Q (some (.long x)) M) : WP T μ pc L [.long x] M Q := by
  intro p e s m args below meth c H locs ls X hR hS hl
  have hlocks : meth.locks = false := X.2.2.2.2.2.2.1
  exact W.lret X.1 X.2.1 (X.2.2.1.trans hr) (fun t ht hW => ⟨⟨_, M, rfl, h, by rw [ht]; exact hR, va_K.moved hW.alike X.2.2.2.2.2.2.2⟩, hS.F ht⟩) hS.2.2 hd
theorem WP.vret {T : Th} {μ : Mt} {pc : Nat} {L : List (Nat × Value)} {M : Mm} {Q : Option Value → Mm → Prop} (hr : μ.2.2.2.2.1 = none) (hd : decode μ.2.2.1 pc = .ok (.return_, 1)) (h : Q none M) : WP T μ pc L [] M Q := by
  intro p e s m args below meth c H locs ls X hR hS hl
  have hlocks : meth.locks = false := X.2.2.2.2.2.2.1
  exact W.vret X.1 X.2.1 (X.2.2.1.trans hr) (fun t ht hW => ⟨⟨_, M, rfl, h, by rw [ht]; exact hR, va_K.moved hW.alike X.2.2.2.2.2.2.2⟩, hS.F ht⟩) hS.2.2 hd
/-- a class's own rows -/
def ClsOK (c : Nat) (C : String) (Tt : u_T) (N : Nat) (ty : Nat → FieldType) : Prop := vwCl[c]? = some (C, Tt, N) ∧ (∀ w ∈ u_ws C Tt N, w ∈ wsA) ∧ (∀ k, k < N → parseFieldDescriptor (Tt k).2.2.1 = some (ty k)) ∧ (∀ a, a < N → ∀ b, b < N → a ≠ b → (Tt a).2.1 ≠ (Tt b).2.1) ∧ nfl c = N
/-- a field as a class's constant pool names it: class number, place, kind of its value -/
def Fld (own : String) (idx c k : Nat) (z : Nat × Nat) (ty0 : FieldType) (fin : Bool) : Prop := ∃ (C : String) (Tt : u_T) (N : Nat) (ty : Nat → FieldType), ClsOK c C Tt N ty ∧ k < N ∧ fkd c k = z ∧ Cond.fieldLink own idx (Tt k).1 (Tt k).2.1 (Tt k).2.2.1 ∈ wsA ∧ ty k = ty0 ∧ (Tt k).2.2.2 = fin
theorem WP.getI {T : Th} {μ : Mt} {pc : Nat} {L : List (Nat × Value)} {st : List Value} {M : Mm} {Q : Option Value → Mm → Prop} {idx cn k a : Nat} {ty0 : FieldType} {fin : Bool} (hf : Fld μ.1 idx cn k (0, 0) ty0 fin) (hO : Ob T a (0, cn)) (hd : decode μ.2.2.1 pc = .ok (.getfield idx, 3)) (h : WP T μ (pc + 3) L (.int (M.1 a k) :: st) M Q) : WP T μ pc L (.ref a :: st) M Q := by
  intro p e s m args below meth c H locs ls X hR hS hl
  obtain ⟨C, Tt, N, ty, ⟨hc1, hc2, hc3, hc4, hc5⟩, hk, hz, hw, -, -⟩ := hf
  obtain ⟨q, hget⟩ := wl_get (M := M) hO
  rw [cell_obj hO] at hget
  exact va_get (v := .int (M.1 a k)) X.1 X.2.1 X.2.2.2.2.2.1 hc2 X.2.2.2.2.1 X.2.2.2.2.2.2.2 hR q hget hc1 k hk (X.2.2.2.2.2.1 _ hw) (fun _ h9 => h9) (by rw [List.getElem?_map, List.getElem?_range (by rw [hc5]; exact hk)]; exact congrArg some (fv_i hz)) hd (h p e s m args below meth c H locs ls X hR hS hl)
theorem WP.getL {T : Th} {μ : Mt} {pc : Nat} {L : List (Nat × Value)} {st : List Value} {M : Mm} {Q : Option Value → Mm → Prop} {idx cn k a : Nat} {ty0 : FieldType} {fin : Bool} (hf : Fld μ.1 idx cn k (1, 0) ty0 fin) (hO : Ob T a (0, cn)) (hd : decode μ.2.2.1 pc = .ok (.getfield idx, 3)) (h : WP T μ (pc + 3) L (.long (M.2.1 a k) :: st) M Q) : WP T μ pc L (.ref a :: st) M Q := by
  intro p e s m args below meth c H locs ls X hR hS hl
  obtain ⟨C, Tt, N, ty, ⟨hc1, hc2, hc3, hc4, hc5⟩, hk, hz, hw, -, -⟩ := hf
  obtain ⟨q, hget⟩ := wl_get (M := M) hO
  rw [cell_obj hO] at hget
  exact va_get (v := .long (M.2.1 a k)) X.1 X.2.1 X.2.2.2.2.2.1 hc2 X.2.2.2.2.1 X.2.2.2.2.2.2.2 hR q hget hc1 k hk (X.2.2.2.2.2.1 _ hw) (fun _ h9 => h9) (by rw [List.getElem?_map, List.getElem?_range (by rw [hc5]; exact hk)]; exact congrArg some (fv_l hz)) hd (h p e s m args below meth c H locs ls X hR hS hl)
theorem WP.getF {T : Th} {μ : Mt} {pc : Nat} {L : List (Nat × Value)} {st : List Value} {M : Mm} {Q : Option Value → Mm → Prop} {idx cn k a o : Nat} {ty0 : FieldType} {fin : Bool} (hf : Fld μ.1 idx cn k (2, o) ty0 fin) (hO : Ob T a (0, cn)) (hd : decode μ.2.2.1 pc = .ok (.getfield idx, 3)) (h : WP T μ (pc + 3) L (.ref (a + o) :: st) M Q) : WP T μ pc L (.ref a :: st) M Q := by
  intro p e s m args below meth c H locs ls X hR hS hl
  obtain ⟨C, Tt, N, ty, ⟨hc1, hc2, hc3, hc4, hc5⟩, hk, hz, hw, -, -⟩ := hf
  obtain ⟨q, hget⟩ := wl_get (M := M) hO
  rw [cell_obj hO] at hget
  exact va_get (v := .ref (a + o)) X.1 X.2.1 X.2.2.2.2.2.1 hc2 X.2.2.2.2.1 X.2.2.2.2.2.2.2 hR q hget hc1 k hk (X.2.2.2.2.2.1 _ hw) (fun _ h9 => h9) (by rw [List.getElem?_map, List.getElem?_range (by rw [hc5]; exact hk)]; exact congrArg some (fv_f hz)) hd (h p e s m args below meth c H locs ls X hR hS hl)
theorem WP.getR {T : Th} {μ : Mt} {pc : Nat} {L : List (Nat × Value)} {st : List Value} {M : Mm} {Q : Option Value → Mm → Prop} {idx cn k a : Nat} {ty0 : FieldType} {fin : Bool} (hf : Fld μ.1 idx cn k (3, 0) ty0 fin) (hO : Ob T a (0, cn)) (hd : decode μ.2.2.1 pc = .ok (.getfield idx, 3)) (h : WP T μ (pc + 3) L (.ref (M.2.2 a k) :: st) M Q) : WP T μ pc L (.ref a :: st) M Q := by
  intro p e s m args below meth c H locs ls X hR hS hl
  obtain ⟨C, Tt, N, ty, ⟨hc1, hc2, hc3, hc4, hc5⟩, hk, hz, hw, -, -⟩ := hf
  obtain ⟨q, hget⟩ := wl_get (M := M) hO
  rw [cell_obj hO] at hget
  exact va_get (v := .ref (M.2.2 a k)) X.1 X.2.1 X.2.2.2.2.2.1 hc2 X.2.2.2.2.1 X.2.2.2.2.2.2.2 hR q hget hc1 k hk (X.2.2.2.2.2.1 _ hw) (fun _ h9 => h9) (by rw [List.getElem?_map, List.getElem?_range (by rw [hc5]; exact hk)]; exact congrArg some (fv_r hz)) hd (h p e s m args below meth c H locs ls X hR hS hl)
theorem WP.putI {T : Th} {μ : Mt} {pc : Nat} {L : List (Nat × Value)} {st : List Value} {M : Mm} {Q : Option Value → Mm → Prop} {idx cn k a : Nat} {v : Int32} (hf : Fld μ.1 idx cn k (0, 0) .int false) (hO : Ob T a (0, cn)) (hd : decode μ.2.2.1 pc = .ok (.putfield idx, 3)) (h : ∀ M1, M1 = sI M a k v → WP T μ (pc + 3) L st M1 Q) : WP T μ pc L (.int v :: .ref a :: st) M Q := by
  intro p e0 s m args below meth c H locs ls X hR hS hl
  obtain ⟨C, Tt, N, ty, ⟨hc1, hc2, hc3, hc4, hc5⟩, hk, hz, hw, ht, hfin⟩ := hf
  obtain ⟨q, hget0⟩ := wl_get (M := M) hO
  have hget := hget0
  rw [cell_obj hO] at hget
  refine va_put (v := .int v) (ty := .int) X.1 X.2.1 X.2.2.2.2.2.1 hc2 ty hc3 hc4 X.2.2.2.2.1 X.2.2.2.2.2.2.2 hR (wl_D T M) hS q hget hc1 k hk (X.2.2.2.2.2.1 _ hw) (fun _ h9 => h9) hfin (by rw [hc3 k hk, ht]) rfl rfl (by simp; rw [hc5]; exact hk) hd (fun H1 locs1 hP1 hD1 hS1 => ?_)
  have e := wl_set (M' := sI M a k v) (e := .inr (cn, ((List.range (nfl cn)).map (fv M a cn)).set k (.int v))) hO hget0 (by rw [cell_obj hO, flds_set (f := fv M a cn) (g := fv (sI M a k v) a cn) (by rw [fv_i hz]; simp [sI]) (fun j hj => fv_sI hj)]) (fun b hb => cell_sI hb)
  rw [e] at hP1
  exact h _ rfl p e0 s m args below meth c H1 locs1 ls X hP1 hS1 hl
theorem WP.putZ {T : Th} {μ : Mt} {pc : Nat} {L : List (Nat × Value)} {st : List Value} {M : Mm} {Q : Option Value → Mm → Prop} {idx cn k a : Nat} {v : Int32} (hf : Fld μ.1 idx cn k (0, 0) .boolean false) (hO : Ob T a (0, cn)) (hv : v = 0 ∨ v = 1) (hd : decode μ.2.2.1 pc = .ok (.putfield idx, 3)) (h : ∀ M1, M1 = sI M a k v → WP T μ (pc + 3) L st M1 Q) : WP T μ pc L (.int v :: .ref a :: st) M Q := by
  intro p e0 s m args below meth c H locs ls X hR hS hl
  obtain ⟨C, Tt, N, ty, ⟨hc1, hc2, hc3, hc4, hc5⟩, hk, hz, hw, ht, hfin⟩ := hf
  obtain ⟨q, hget0⟩ := wl_get (M := M) hO
  have hget := hget0
  rw [cell_obj hO] at hget
  refine va_put (v := .int v) (ty := .boolean) X.1 X.2.1 X.2.2.2.2.2.1 hc2 ty hc3 hc4 X.2.2.2.2.1 X.2.2.2.2.2.2.2 hR (wl_D T M) hS q hget hc1 k hk (X.2.2.2.2.2.1 _ hw) (fun _ h9 => h9) hfin (by rw [hc3 k hk, ht]) (by rcases hv with h9 | h9 <;> subst h9 <;> decide) (by rcases hv with h9 | h9 <;> subst h9 <;> decide) (by simp; rw [hc5]; exact hk) hd (fun H1 locs1 hP1 hD1 hS1 => ?_)
  have e := wl_set (M' := sI M a k v) (e := .inr (cn, ((List.range (nfl cn)).map (fv M a cn)).set k (.int v))) hO hget0 (by rw [cell_obj hO, flds_set (f := fv M a cn) (g := fv (sI M a k v) a cn) (by rw [fv_i hz]; simp [sI]) (fun j hj => fv_sI hj)]) (fun b hb => cell_sI hb)
  rw [e] at hP1
  exact h _ rfl p e0 s m args below meth c H1 locs1 ls X hP1 hS1 hl
theorem WP.putL {T : Th} {μ : Mt} {pc : Nat} {L : List (Nat × Value)} {st : List Value} {M : Mm} {Q : Option Value → Mm → Prop} {idx cn k a : Nat} {v : Int64} (hf : Fld μ.1 idx cn k (1, 0) .long false) (hO : Ob T a (0, cn)) (hd : decode μ.2.2.1 pc = .ok (.putfield idx, 3)) (h : ∀ M1, M1 = sL M a k v → WP T μ (pc + 3) L st M1 Q) : WP T μ pc L (.long v :: .ref a :: st) M Q := by
  intro p e0 s m args below meth c H locs ls X hR hS hl
  obtain ⟨C, Tt, N, ty, ⟨hc1, hc2, hc3, hc4, hc5⟩, hk, hz, hw, ht, hfin⟩ := hf
  obtain ⟨q, hget0⟩ := wl_get (M := M) hO
  have hget := hget0
  rw [cell_obj hO] at hget
  refine va_put (v := .long v) (ty := .long) X.1 X.2.1 X.2.2.2.2.2.1 hc2 ty hc3 hc4 X.2.2.2.2.1 X.2.2.2.2.2.2.2 hR (wl_D T M) hS q hget hc1 k hk (X.2.2.2.2.2.1 _ hw) (fun _ h9 => h9) hfin (by rw [hc3 k hk, ht]) rfl rfl (by simp; rw [hc5]; exact hk) hd (fun H1 locs1 hP1 hD1 hS1 => ?_)
  have e := wl_set (M' := sL M a k v) (e := .inr (cn, ((List.range (nfl cn)).map (fv M a cn)).set k (.long v))) hO hget0 (by rw [cell_obj hO, flds_set (f := fv M a cn) (g := fv (sL M a k v) a cn) (by rw [fv_l hz]; simp [sL]) (fun j hj => fv_sL hj)]) (fun b hb => cell_sL hb)
  rw [e] at hP1
  exact h _ rfl p e0 s m args below meth c H1 locs1 ls X hP1 hS1 hl
theorem fits_obj0 : True := trivial
theorem WP.putR {T : Th} {μ : Mt} {pc : Nat} {L : List (Nat × Value)} {st : List Value} {M : Mm} {Q : Option Value → Mm → Prop} {idx cn k a v : Nat} {C2 : String} (hf : Fld μ.1 idx cn k (3, 0) (.object C2) false) (hO : Ob T a (0, cn)) (hd : decode μ.2.2.1 pc = .ok (.putfield idx, 3)) (h : ∀ M1, M1 = sR M a k v → WP T μ (pc + 3) L st M1 Q) : WP T μ pc L (.ref v :: .ref a :: st) M Q := by
  intro p e0 s m args below meth c H locs ls X hR hS hl
  obtain ⟨C, Tt, N, ty, ⟨hc1, hc2, hc3, hc4, hc5⟩, hk, hz, hw, ht, hfin⟩ := hf
  obtain ⟨q, hget0⟩ := wl_get (M := M) hO
  have hget := hget0
  rw [cell_obj hO] at hget
  refine va_put (v := .ref v) (ty := .object C2) X.1 X.2.1 X.2.2.2.2.2.1 hc2 ty hc3 hc4 X.2.2.2.2.1 X.2.2.2.2.2.2.2 hR (wl_D T M) hS q hget hc1 k hk (X.2.2.2.2.2.1 _ hw) (fun _ h9 => h9) hfin (by rw [hc3 k hk, ht]) rfl rfl (by simp; rw [hc5]; exact hk) hd (fun H1 locs1 hP1 hD1 hS1 => ?_)
  have e := wl_set (M' := sR M a k v) (e := .inr (cn, ((List.range (nfl cn)).map (fv M a cn)).set k (.ref v))) hO hget0 (by rw [cell_obj hO, flds_set (f := fv M a cn) (g := fv (sR M a k v) a cn) (by rw [fv_r hz]; simp [sR]) (fun j hj => fv_sR hj)]) (fun b hb => cell_sR hb)
  rw [e] at hP1
  exact h _ rfl p e0 s m args below meth c H1 locs1 ls X hP1 hS1 hl
theorem WP.iald {T : Th} {μ : Mt} {pc : Nat} {L : List (Nat × Value)} {st : List Value} {M : Mm} {Q : Option Value → Mm → Prop} {a n : Nat} {i : Int32} (hO : Ob T a (1, n)) (hin : vp_in i n) (hd : decode μ.2.2.1 pc = .ok (.iaload, 1)) (h : WP T μ (pc + 1) L (.int (M.1 a i.toNatClampNeg) :: st) M Q) : WP T μ pc L (.int i :: .ref a :: st) M Q := by
  intro p e s m args below meth c H locs ls X hR hS hl
  obtain ⟨q, hget⟩ := wl_get (M := M) hO
  rw [cell_i hO] at hget
  exact va_iald X.1 X.2.1 X.2.2.2.2.2.2.2 hR q 0 hget rfl hin hd (h p e s m args below meth c H locs ls X hR hS hl)
theorem WP.lald {T : Th} {μ : Mt} {pc : Nat} {L : List (Nat × Value)} {st : List Value} {M : Mm} {Q : Option Value → Mm → Prop} {a n : Nat} {i : Int32} (hO : Ob T a (2, n)) (hin : vp_in i n) (hd : decode μ.2.2.1 pc = .ok (.laload, 1)) (h : WP T μ (pc + 1) L (.long (M.2.1 a i.toNatClampNeg) :: st) M Q) : WP T μ pc L (.int i :: .ref a :: st) M Q := by
  intro p e s m args below meth c H locs ls X hR hS hl
  obtain ⟨q, hget⟩ := wl_get (M := M) hO
  rw [cell_l hO] at hget
  exact va_lald X.1 X.2.1 X.2.2.2.2.2.2.2 hR q 1 hget rfl hin hd (h p e s m args below meth c H locs ls X hR hS hl)
theorem WP.bald {T : Th} {μ : Mt} {pc : Nat} {L : List (Nat × Value)} {st : List Value} {M : Mm} {Q : Option Value → Mm → Prop} {a n : Nat} {i : Int32} (hO : Ob T a (3, n)) (hin : vp_in i n) (hd : decode μ.2.2.1 pc = .ok (.baload, 1)) (h : WP T μ (pc + 1) L (.int (M.1 a i.toNatClampNeg) :: st) M Q) : WP T μ pc L (.int i :: .ref a :: st) M Q := by
  intro p e s m args below meth c H locs ls X hR hS hl
  obtain ⟨q, hget⟩ := wl_get (M := M) hO
  rw [cell_b hO] at hget
  exact va_bald X.1 X.2.1 X.2.2.2.2.2.2.2 hR q 2 hget rfl hin hd (h p e s m args below meth c H locs ls X hR hS hl)
theorem WP.zald {T : Th} {μ : Mt} {pc : Nat} {L : List (Nat × Value)} {st : List Value} {M : Mm} {Q : Option Value → Mm → Prop} {a n : Nat} {i : Int32} (hO : Ob T a (4, n)) (hin : vp_in i n) (hd : decode μ.2.2.1 pc = .ok (.baload, 1)) (h : WP T μ (pc + 1) L (.int (M.1 a i.toNatClampNeg) :: st) M Q) : WP T μ pc L (.int i :: .ref a :: st) M Q := by
  intro p e s m args below meth c H locs ls X hR hS hl
  obtain ⟨q, hget⟩ := wl_get (M := M) hO
  rw [cell_z hO] at hget
  exact va_zald X.1 X.2.1 X.2.2.2.2.2.2.2 hR q 3 hget rfl hin hd (h p e s m args below meth c H locs ls X hR hS hl)
theorem WP.aald {T : Th} {μ : Mt} {pc : Nat} {L : List (Nat × Value)} {st : List Value} {M : Mm} {Q : Option Value → Mm → Prop} {a n : Nat} {i : Int32} (hO : Ob T a (5, n)) (hin : vp_in i n) (hd : decode μ.2.2.1 pc = .ok (.aaload, 1)) (h : WP T μ (pc + 1) L (.ref (M.2.2 a i.toNatClampNeg) :: st) M Q) : WP T μ pc L (.int i :: .ref a :: st) M Q := by
  intro p e s m args below meth c H locs ls X hR hS hl
  obtain ⟨q, hget⟩ := wl_get (M := M) hO
  rw [cell_q hO] at hget
  exact va_aldq X.1 X.2.1 X.2.2.2.2.2.2.2 hR q 4 hget rfl hin hd (h p e s m args below meth c H locs ls X hR hS hl)
theorem WP.iast {T : Th} {μ : Mt} {pc : Nat} {L : List (Nat × Value)} {st : List Value} {M : Mm} {Q : Option Value → Mm → Prop} {a n : Nat} {i : Int32} {x : Int32} (hO : Ob T a (1, n)) (hin : vp_in i n) (hd : decode μ.2.2.1 pc = .ok (.iastore, 1)) (h : ∀ M1, M1 = sI M a i.toNatClampNeg x → WP T μ (pc + 1) L st M1 Q) : WP T μ pc L (.int x :: .int i :: .ref a :: st) M Q := by
  intro p e s m args below meth c H locs ls X hR hS hl
  obtain ⟨q, hget0⟩ := wl_get (M := M) hO
  have hget := hget0
  rw [cell_i hO] at hget
  refine va_iast X.1 X.2.1 X.2.2.2.2.2.2.2 hR (wl_D T M) hS q 0 hget rfl hin hd (fun H1 locs1 hP1 hD1 hS1 => ?_)
  rw [wl_set (M' := sI M a i.toNatClampNeg x) hO hget0 (by rw [cell_i hO]; congr 4; funext j; simp [upd, vp_updL, sI]) (fun b hb => cell_sI hb)] at hP1
  exact h _ rfl p e s m args below meth c H1 locs1 ls X hP1 hS1 hl
theorem WP.last {T : Th} {μ : Mt} {pc : Nat} {L : List (Nat × Value)} {st : List Value} {M : Mm} {Q : Option Value → Mm → Prop} {a n : Nat} {i : Int32} {x : Int64} (hO : Ob T a (2, n)) (hin : vp_in i n) (hd : decode μ.2.2.1 pc = .ok (.lastore, 1)) (h : ∀ M1, M1 = sL M a i.toNatClampNeg x → WP T μ (pc + 1) L st M1 Q) : WP T μ pc L (.long x :: .int i :: .ref a :: st) M Q := by
  intro p e s m args below meth c H locs ls X hR hS hl
  obtain ⟨q, hget0⟩ := wl_get (M := M) hO
  have hget := hget0
  rw [cell_l hO] at hget
  refine va_last X.1 X.2.1 X.2.2.2.2.2.2.2 hR (wl_D T M) hS q 1 hget rfl hin hd (fun H1 locs1 hP1 hD1 hS1 => ?_)
  rw [wl_set (M' := sL M a i.toNatClampNeg x) hO hget0 (by rw [cell_l hO]; congr 5; funext j; simp [upd, vp_updL, sL]) (fun b hb => cell_sL hb)] at hP1
  exact h _ rfl p e s m args below meth c H1 locs1 ls X hP1 hS1 hl
theorem WP.bast {T : Th} {μ : Mt} {pc : Nat} {L : List (Nat × Value)} {st : List Value} {M : Mm} {Q : Option Value → Mm → Prop} {a n : Nat} {i : Int32} {x : Int32} (hO : Ob T a (3, n)) (hin : vp_in i n) (hd : decode μ.2.2.1 pc = .ok (.bastore, 1)) (h : ∀ M1, M1 = sI M a i.toNatClampNeg (vp_nar .byte x) → WP T μ (pc + 1) L st M1 Q) : WP T μ pc L (.int x :: .int i :: .ref a :: st) M Q := by
  intro p e s m args below meth c H locs ls X hR hS hl
  obtain ⟨q, hget0⟩ := wl_get (M := M) hO
  have hget := hget0
  rw [cell_b hO] at hget
  refine va_bast X.1 X.2.1 X.2.2.2.2.2.2.2 hR (wl_D T M) hS q 2 hget rfl hin hd (fun H1 locs1 hP1 hD1 hS1 => ?_)
  rw [wl_set (M' := sI M a i.toNatClampNeg (vp_nar .byte x)) hO hget0 (by rw [cell_b hO]; congr 4; funext j; simp [upd, vp_updL, sI]) (fun b hb => cell_sI hb)] at hP1
  exact h _ rfl p e s m args below meth c H1 locs1 ls X hP1 hS1 hl
theorem WP.zast {T : Th} {μ : Mt} {pc : Nat} {L : List (Nat × Value)} {st : List Value} {M : Mm} {Q : Option Value → Mm → Prop} {a n : Nat} {i : Int32} {x : Int32} (hO : Ob T a (4, n)) (hin : vp_in i n) (hd : decode μ.2.2.1 pc = .ok (.bastore, 1)) (h : ∀ M1, M1 = sI M a i.toNatClampNeg (vp_nar .boolean x) → WP T μ (pc + 1) L st M1 Q) : WP T μ pc L (.int x :: .int i :: .ref a :: st) M Q := by
  intro p e s m args below meth c H locs ls X hR hS hl
  obtain ⟨q, hget0⟩ := wl_get (M := M) hO
  have hget := hget0
  rw [cell_z hO] at hget
  refine va_zast X.1 X.2.1 X.2.2.2.2.2.2.2 hR (wl_D T M) hS q 3 hget rfl hin hd (fun H1 locs1 hP1 hD1 hS1 => ?_)
  rw [wl_set (M' := sI M a i.toNatClampNeg (vp_nar .boolean x)) hO hget0 (by rw [cell_z hO]; congr 4; funext j; simp [upd, vp_updL, sI]) (fun b hb => cell_sI hb)] at hP1
  exact h _ rfl p e s m args below meth c H1 locs1 ls X hP1 hS1 hl
theorem WP.aast {T : Th} {μ : Mt} {pc : Nat} {L : List (Nat × Value)} {st : List Value} {M : Mm} {Q : Option Value → Mm → Prop} {a n v : Nat} {i : Int32} (hO : Ob T a (5, n)) (hv : Ob T v (0, 2)) (hin : vp_in i n) (hd : decode μ.2.2.1 pc = .ok (.aastore, 1)) (h : ∀ M1, M1 = sR M a i.toNatClampNeg v → WP T μ (pc + 1) L st M1 Q) : WP T μ pc L (.ref v :: .int i :: .ref a :: st) M Q := by
  intro p e s m args below meth c H locs ls X hR hS hl
  obtain ⟨q, hget0⟩ := wl_get (M := M) hO
  have hget := hget0
  rw [cell_q hO] at hget
  obtain ⟨q2, hget2⟩ := wl_get (M := M) hv
  rw [cell_obj hv] at hget2
  refine va_astq (r := (RX2, TX2, 7)) X.1 X.2.1 X.2.2.2.2.2.2.2 hR (wl_D T M) hS q 4 q2 2 hget rfl hget2 rfl hin hd (fun H1 locs1 hP1 hD1 hS1 => ?_)
  rw [wl_set (M' := sR M a i.toNatClampNeg v) hO hget0 (by rw [cell_q hO]; congr 7; funext j; simp [va_up, sR]; split <;> rfl) (fun b hb => cell_sR hb)] at hP1
  exact h _ rfl p e s m args below meth c H1 locs1 ls X hP1 hS1 hl
theorem WP.copyi {T : Th} {μ : Mt} {pc : Nat} {L : List (Nat × Value)} {st : List Value} {M : Mm} {Q : Option Value → Mm → Prop} {k a b n0 n1 : Nat} {sp dp n : Int32} (hO : Ob T a (1, n0)) (hO2 : Ob T b (1, n1)) (hw : Cond.methodLink μ.1 k arraycopyName ∈ wsA ∧ Cond.native arraycopyName ∈ wsA ∧ Cond.static arraycopyName ∈ wsA ∧ Cond.initialized "java/lang/System" ∈ wsA) (h1 : ¬ sp < 0) (h2 : ¬ dp < 0) (h3 : ¬ n < 0) (h4 : sp.toNatClampNeg + n.toNatClampNeg ≤ n0) (h5 : dp.toNatClampNeg + n.toNatClampNeg ≤ n1) (hf : 1 ≤ (mRm μ).frames) (hlo : (st.map fun v => v.category).sum + (nativeFrameWords "java/lang/System" "arraycopy" 5 + 11) ≤ (mRm μ).locals) (hd : decode μ.2.2.1 pc = .ok (.invokestatic k, 3)) (h : ∀ M1, M1 = sC M a b sp.toNatClampNeg dp.toNatClampNeg n.toNatClampNeg → WP T μ (pc + 3) L st M1 Q) : WP T μ pc L (.int n :: .int dp :: .ref b :: .int sp :: .ref a :: st) M Q := by
  intro p e s m args below meth c H locs ls X hR hS hl
  obtain ⟨q, hget⟩ := wl_get (M := M) hO
  rw [cell_i hO] at hget
  obtain ⟨q2, hget0⟩ := wl_get (M := M) hO2
  have hget2 := hget0
  rw [cell_i hO2] at hget2
  refine va_copyi (ty := .int) X.1 X.2.1 (X.2.2.2.1.trans hl.1.symm) X.2.2.2.2.1 (X.2.2.2.2.2.1 _ hw.1) (X.2.2.2.2.2.1 _ hw.2.1) (X.2.2.2.2.2.1 _ hw.2.2.1) (X.2.2.2.2.2.1 _ hw.2.2.2) X.2.2.2.2.2.2.2 hR (wl_D T M) hS q q2 0 0 hget hget2 rfl rfl rfl h1 h2 h3 h4 h5 (fun _ _ => rfl) hf hlo hd (fun H1 locs1 hP1 hD1 hS1 => ?_)
  rw [wl_set (M' := sC M a b sp.toNatClampNeg dp.toNatClampNeg n.toNatClampNeg) hO2 hget0 (by rw [cell_i hO2]; congr 4; funext j; simp [sC]) (fun b hb => cell_sC hb)] at hP1
  exact h _ rfl p e s m args below meth c H1 locs1 ls X hP1 hS1 hl
