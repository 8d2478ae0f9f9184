/-! CONSTRUCTORS: an object at a, all that is made lies behind it; X are the cells, n the heap's size -/
def Qc (T : Th) (a : Nat) (Φ : Heap → Prop) : Array Value → State → Outcome → State → Prop := va_Qv (S := Unit) (fun _ => True) (fun _ t => Φ t.heap ∧ va_K T.2.1 vwCl (tyL T) t) (fun q => a ≤ q)
/-- links to private constructors of classes of the same nest -/
def nwL : List (String × Nat × MethodName) := [(RX6, 9, yX4_init), (RX6, 18, yX3_init), (RX6, 25, yX0_init), (RX6, 32, yX2_init), (RX5, 11, yX2_init), (RX1, 29, yX2_init)]
def NwA (U : State) : Prop := (∀ q ∈ nwL, va_Nw (.methodLinkNest q.1 q.2.1 q.2.2 RX6) U) ∧ va_AO RX2 U
def WC (T : Th) (μ : Mt) (ρ : Room) (a pc : Nat) (L : List (Nat × Value)) (st : List Value) (X : va_W) (n ce sl kc ks : Nat) (Φ : Heap → Prop) : Prop :=
  ∀ (p : Program) (e : Env) (s : State) (m : MethodId) (args : Array Value) (below : List Frame) (meth : Method) (c : Code) (H : Heap) (locs : List Loc) (ls : Array Slot), Cx T μ p s m args meth c → (meth.name = "<init>" ∧ NwA s ∧ s.heap.size = a + 1) → va_P T.2.1 vwCl X H → va_D (fun q => a ≤ q) X → H.size = n → va_S (fun q => a ≤ q) s.heap H locs → lv_has ls μ.2.2.2.1 L → W p T.1 e ρ s m args below meth c H locs ce sl (MQ below (Qc T a Φ) args s kc ks (fun q => a ≤ q)) (F0 m pc ls st)
theorem WC.ret {T : Th} {μ : Mt} {ρ : Room} {a pc : Nat} {L : List (Nat × Value)} {X : va_W} {n ce sl : Nat} {Φ : Heap → Prop} (hr : μ.2.2.2.2.1 = none) (hd : decode μ.2.2.1 pc = .ok (.return_, 1)) (h : ∀ H : Heap, va_P T.2.1 vwCl X H → H.size = n → Φ H) : WC T μ ρ a pc L [] X n ce sl ce sl Φ := by
  intro p e s m args below meth c H locs ls C0 hin hP hD hz hS hl
  have hlocks : meth.locks = false := C0.2.2.2.2.2.2.1
  exact W.vret C0.1 C0.2.1 (C0.2.2.1.trans hr) (fun t ht hW => ⟨⟨(), rfl, trivial, by rw [ht]; exact h H hP hz, va_K.moved hW.alike C0.2.2.2.2.2.2.2⟩, hS.F ht⟩) hS.2.2 hd
section
variable {T : Th} {μ : Mt} {ρ : Room} {a pc : Nat} {L : List (Nat × Value)} {st : List Value} {X : va_W} {n ce sl kc ks : Nat} {Φ : Heap → Prop}
theorem WC.iconst {k : Int} {v : Int32} (hd : decode μ.2.2.1 pc = .ok (.iconst k, 1)) (hv : Int32.ofInt k = v) (h : WC T μ ρ a (pc + 1) L (.int v :: st) X n ce sl kc ks Φ) : WC T μ ρ a pc L st X n ce sl kc ks Φ := fun p e s m args below meth c H locs ls C0 hin hP hD hz hS hl => lv_iconst C0.1 C0.2.1 hd hv (h p e s m args below meth c H locs ls C0 hin hP hD hz hS hl)
theorem WC.bipush {k : Int} {v : Int32} (hd : decode μ.2.2.1 pc = .ok (.bipush k, 2)) (hv : (Int8.ofInt k).toInt32 = v) (h : WC T μ ρ a (pc + 2) L (.int v :: st) X n ce sl kc ks Φ) : WC T μ ρ a pc L st X n ce sl kc ks Φ := fun p e s m args below meth c H locs ls C0 hin hP hD hz hS hl => lv_bipush C0.1 C0.2.1 hd hv (h p e s m args below meth c H locs ls C0 hin hP hD hz hS hl)
theorem WC.sipush {k : Int} {v : Int32} (hd : decode μ.2.2.1 pc = .ok (.sipush k, 3)) (hv : (Int16.ofInt k).toInt32 = v) (h : WC T μ ρ a (pc + 3) L (.int v :: st) X n ce sl kc ks Φ) : WC T μ ρ a pc L st X n ce sl kc ks Φ := fun p e s m args below meth c H locs ls C0 hin hP hD hz hS hl => lv_sipush C0.1 C0.2.1 hd hv (h p e s m args below meth c H locs ls C0 hin hP hD hz hS hl)
theorem WC.aload_n {k : Fin 4} {i x : Nat} (j : Nat) (hd : decode μ.2.2.1 pc = .ok (.aload_n k, 1)) (hi : (k : Nat) = i) (hj : L[j]? = some (i, .ref x)) (h : WC T μ ρ a (pc + 1) L (.ref x :: st) X n ce sl kc ks Φ) : WC T μ ρ a pc L st X n ce sl kc ks Φ := fun p e s m args below meth c H locs ls C0 hin hP hD hz hS hl => lv_aload_n C0.1 C0.2.1 hd hi (lv_at hl j hj) (h p e s m args below meth c H locs ls C0 hin hP hD hz hS hl)
theorem WC.dup {v : Value} (hd : decode μ.2.2.1 pc = .ok (.dup, 1)) (hv : v.category = 1) (h : WC T μ ρ a (pc + 1) L (v :: v :: st) X n ce sl kc ks Φ) : WC T μ ρ a pc L (v :: st) X n ce sl kc ks Φ := fun p e s m args below meth c H locs ls C0 hin hP hD hz hS hl => lv_dup C0.1 C0.2.1 hd hv (h p e s m args below meth c H locs ls C0 hin hP hD hz hS hl)
end
section
variable {T : Th} {μ : Mt} {ρ : Room} {a pc : Nat} {L : List (Nat × Value)} {st : List Value} {X : va_W} {n ce sl kc ks : Nat} {Φ : Heap → Prop}
/-- a new cell at the heap's end -/
theorem X_push {H H1 : Heap} {D : va_G} {q : va_E} (hP : va_P D vwCl X H) (hD : va_D (fun q => a ≤ q) X) (hz : H.size = n) (ha : a ≤ n) (h1 : va_at D vwCl (n, q) H1) (o1 : ∀ q, q < n → H1[q]? = H[q]?) : va_P D vwCl (X ++ [(n, q)]) H1 ∧ va_D (fun q => a ≤ q) (X ++ [(n, q)]) := by
  subst hz
  refine ⟨(hP.kept (fun k x hx => o1 x.1 ((hP k x hx).lt))).app (fun k x hx => ?_), hD.push hP rfl ha⟩
  have hk : k < 1 := (List.getElem?_eq_some_iff.mp hx).1
  rw [show k = 0 by omega] at hx
  cases hx
  exact h1
theorem S_push {H0 H H1 : Heap} {locs : List Loc} (hS : va_S (fun q => a ≤ q) H0 H locs) (hz : H.size = n) (z1 : H1.size = n + 1) (o1 : ∀ q, q < n → H1[q]? = H[q]?) : va_S (fun q => a ≤ q) H0 H1 locs := by
  subst hz
  exact ⟨Nat.le_trans hS.1 (by omega), fun q h1 h2 => (o1 q (Nat.lt_of_lt_of_le h1 hS.1)).trans (hS.2.1 q h1 h2), hS.2.2⟩
end
section
variable {T : Th} {μ : Mt} {ρ : Room} {a pc : Nat} {L : List (Nat × Value)} {st : List Value} {X : va_W} {n ce sl kc ks : Nat} {Φ : Heap → Prop}
theorem WC.newa {atype : ArrayType} {k : Int32} {N : Nat} {cA : ClassId} {a0 : vp_A} (harr : Cond.arrayClass (newarray.typeOf atype) ∈ wsA) (hcA : ∀ s, va_K T.2.1 vwCl (tyL T) s → s.vm.findClass ("[" ++ (newarray.typeOf atype).toString) = some cA) (ha0 : vp_cell cA a0 = arrV cA N (fun _ => defaultValue (newarray.typeOf atype))) (hk : ¬ k < 0) (hN : k.toNatClampNeg = N) (hbytes : N * componentBytes (newarray.typeOf atype) ≤ 536870912) (han : a ≤ n) (hce : ce + 1 ≤ ρ.cells) (hsl : sl + N ≤ ρ.slots) (hd : decode μ.2.2.1 pc = .ok (.newarray atype, 2)) (h : WC T μ ρ a (pc + 2) L (.ref n :: st) (X ++ [(n, .inl (cA, a0))]) (n + 1) (ce + 1) (sl + N) kc ks Φ) : WC T μ ρ a pc L (.int k :: st) X n ce sl kc ks Φ := by
  intro p e s m args below meth c H locs ls C0 hin hP hD hz hS hl
  refine vn_newa (D := T.2.1) C0.1 C0.2.1 (C0.2.2.2.2.2.1 _ harr) (hcA s C0.2.2.2.2.2.2.2) ha0 hk hN hbytes hz hce hsl hd (fun H1 h1 z1 o1 => ?_)
  obtain ⟨hP1, hD1⟩ := X_push hP hD hz han h1 o1
  exact h p e s m args below meth c H1 locs ls C0 hin hP1 hD1 z1 (S_push hS hz z1 o1) hl
end
section
variable {T : Th} {μ : Mt} {ρ : Room} {a pc : Nat} {L : List (Nat × Value)} {st : List Value} {X : va_W} {n ce sl kc ks : Nat} {Φ : Heap → Prop}
theorem WC.newq {index : Nat} {k : Int32} {N : Nat} {cA : ClassId} (hlk : Cond.classLink μ.1 index RX2 ∈ wsA) (hcA : ∀ s, va_K T.2.1 vwCl (tyL T) s → s.vm.findClass ("[" ++ (FieldType.object RX2).toString) = some cA) (hk : ¬ k < 0) (hN : k.toNatClampNeg = N) (hbytes : N * 4 ≤ 536870912) (han : a ≤ n) (hce : ce + 1 ≤ ρ.cells) (hsl : sl + N ≤ ρ.slots) (hd : decode μ.2.2.1 pc = .ok (.anewarray index, 3)) (h : WC T μ ρ a (pc + 3) L (.ref n :: st) (X ++ [(n, .inl (cA, N, .inr (.inr (.inr (.inr (fun _ => none))))))]) (n + 1) (ce + 1) (sl + N) kc ks Φ) : WC T μ ρ a pc L (.int k :: st) X n ce sl kc ks Φ := by
  intro p e s m args below meth c H locs ls C0 hin hP hD hz hS hl
  refine vn_newq (D := T.2.1) C0.1 C0.2.1 C0.2.2.2.2.1 (C0.2.2.2.2.2.1 _ hlk) hin.2.1.2.use (hcA s C0.2.2.2.2.2.2.2) hk hN hbytes hz hce hsl hd (fun H1 h1 z1 o1 => ?_)
  obtain ⟨hP1, hD1⟩ := X_push hP hD hz han h1 o1
  exact h p e s m args below meth c H1 locs ls C0 hin hP1 hD1 z1 (S_push hS hz z1 o1) hl
theorem WC.new {C : String} {U : u_T} {N ci index : Nat} {ty : Nat → FieldType} {fs : List Value} (hcl : ClsOK ci C U N ty) (hlk : Cond.classLink μ.1 index C ∈ wsA) (hi : Cond.instantiable C N ∈ wsA) (hin' : Cond.initialized C ∈ wsA) (hfs : ∀ j, j < N → defaultValue (ty j) = vp_V fs j) (han : a ≤ n) (hce : ce + 1 ≤ ρ.cells) (hsl : sl + N ≤ ρ.slots) (hd : decode μ.2.2.1 pc = .ok (.new index, 3)) (h : WC T μ ρ a (pc + 3) L (.ref n :: st) (X ++ [(n, .inr (ci, fs))]) (n + 1) (ce + 1) (sl + N) kc ks Φ) : WC T μ ρ a pc L st X n ce sl kc ks Φ := by
  intro p e s m args below meth c H locs ls C0 hin hP hD hz hS hl
  refine vn_new (D := T.2.1) C0.1 C0.2.1 C0.2.2.2.2.2.1 hcl.2.1 ty hcl.2.2.1 C0.2.2.2.2.1 (C0.2.2.2.2.2.1 _ hlk) (C0.2.2.2.2.2.1 _ hi) (C0.2.2.2.2.2.1 _ hin') C0.2.2.2.2.2.2.2 hcl.1 hfs hz hce hsl hd (fun H1 h1 z1 o1 => ?_)
  obtain ⟨hP1, hD1⟩ := X_push hP hD hz han h1 o1
  exact h p e s m args below meth c H1 locs ls C0 hin hP1 hD1 z1 (S_push hS hz z1 o1) hl
end
