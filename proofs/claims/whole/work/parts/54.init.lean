/-! CONSTRUCTORS: an object at a, all that is made lies behind it; X are the cells, n the heap's size -/
def Qc (T : Th) (a : Nat) (Φ : Heap → Prop) : Array Value → State → Outcome → State → Prop := va_Qv (S := Unit) (fun _ => True) (fun _ t => Φ t.heap ∧ va_K T.2.1 vwCl (tyL T) t) (fun q => a ≤ q)
def WC (T : Th) (μ : Mt) (ρ : Room) (a pc : Nat) (L : List (Nat × Value)) (st : List Value) (X : va_W) (n ce sl kc ks : Nat) (Φ : Heap → Prop) : Prop :=
  ∀ (p : Program) (e : Env) (s : State) (m : MethodId) (args : Array Value) (below : List Frame) (meth : Method) (c : Code) (H : Heap) (locs : List Loc) (ls : Array Slot), Cx T μ p s m args meth c → meth.name = "<init>" → va_P T.2.1 vwCl X H → va_D (fun q => a ≤ q) X → H.size = n → va_S (fun q => a ≤ q) s.heap H locs → lv_has ls μ.2.2.2.1 L → W p T.1 e ρ s m args below meth c H locs ce sl (MQ below (Qc T a Φ) args s kc ks (fun q => a ≤ q)) (F0 m pc ls st)
theorem WC.ret {T : Th} {μ : Mt} {ρ : Room} {a pc : Nat} {L : List (Nat × Value)} {X : va_W} {n ce sl : Nat} {Φ : Heap → Prop} (hr : μ.2.2.2.2.1 = none) (hd : decode μ.2.2.1 pc = .ok (.return_, 1)) (h : ∀ H : Heap, va_P T.2.1 vwCl X H → H.size = n → Φ H) : WC T μ ρ a pc L [] X n ce sl ce sl Φ := by
  intro p e s m args below meth c H locs ls C0 hin hP hD hz hS hl
  have hlocks : meth.locks = false := C0.2.2.2.2.2.2.1
  exact W.vret C0.1 C0.2.1 (C0.2.2.1.trans hr) (fun t ht hW => ⟨⟨(), rfl, trivial, by rw [ht]; exact h H hP hz, va_K.moved hW.alike C0.2.2.2.2.2.2.2⟩, hS.F ht⟩) hS.2.2 hd
