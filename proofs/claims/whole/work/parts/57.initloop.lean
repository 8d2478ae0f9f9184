/-! CONSTRUCTORS: locals, loops, stores, a call of a method -/
theorem W_cap {p : Program} {l : Launch} {e : Env} {R : Room} {s : State} {m : MethodId} {args : Array Value} {below : List Frame} {meth : Method} {c : Code} {H : Heap} {locs : List Loc} {cells slots : Nat} {Q : State → Prop} {g : JFrame} (h : H.size ≤ s.heap.size + cells → W p l e R s m args below meth c H locs cells slots Q g) : W p l e R s m args below meth c H locs cells slots Q g := fun T hT X => h (by rw [← hT]; exact X.same.2.2.1) T hT X
theorem S_at {A : Nat → Prop} {H0 H : Heap} {locs : List Loc} (h : va_S A H0 H locs) : va_S A H H locs := ⟨Nat.le_refl _, fun _ _ _ => rfl, h.2.2⟩
theorem S_trans {A : Nat → Prop} {H0 H H1 : Heap} {locs locs1 : List Loc} (h : va_S A H0 H locs) (h1 : va_S A H H1 locs1) : va_S A H0 H1 locs1 := ⟨Nat.le_trans h.1 h1.1, fun q a b => (h1.2.1 q (Nat.lt_of_lt_of_le a h.1) b).trans (h.2.1 q a b), h1.2.2⟩
section
variable {T : Th} {μ : Mt} {ρ : Room} {a pc : Nat} {L : List (Nat × Value)} {st : List Value} {X : va_W} {n ce sl kc ks : Nat} {Φ : Heap → Prop}
theorem WC.iload_n {k : Fin 4} {i : Nat} {x : Int32} (j : Nat) (hd : decode μ.2.2.1 pc = .ok (.iload_n k, 1)) (hi : (k : Nat) = i) (hj : L[j]? = some (i, .int x)) (h : WC T μ ρ a (pc + 1) L (.int x :: st) X n ce sl kc ks Φ) : WC T μ ρ a pc L st X n ce sl kc ks Φ := fun p e s m args below meth c H locs ls C0 hin hP hD hz hS hl => lv_iload_n C0.1 C0.2.1 hd hi (lv_at hl j hj) (h p e s m args below meth c H locs ls C0 hin hP hD hz hS hl)
theorem WC.istore_n {k : Fin 4} {i : Nat} {x : Int32} {L2 : List (Nat × Value)} (hd : decode μ.2.2.1 pc = .ok (.istore_n k, 1)) (hi : (k : Nat) = i) (hn : i < μ.2.2.2.1) (hl2 : (i, Value.int x) :: L.filter (fun q => !(q.1 == i) && !(q.1 + 1 == i && q.2.category == 2)) = L2) (h : WC T μ ρ a (pc + 1) L2 st X n ce sl kc ks Φ) : WC T μ ρ a pc L (.int x :: st) X n ce sl kc ks Φ := fun p e s m args below meth c H locs ls C0 hin hP hD hz hS hl => lv_istore_n C0.1 C0.2.1 hd hi hl hn hl2 (fun ls hl => h p e s m args below meth c H locs ls C0 hin hP hD hz hS hl)
theorem WC.iinc {i : Nat} {d : Int} {x v : Int32} {L2 : List (Nat × Value)} (j : Nat) (hd : decode μ.2.2.1 pc = .ok (.iinc i d, 3)) (hj : L[j]? = some (i, .int x)) (hv : x + Int32.ofInt d = v) (hn : i < μ.2.2.2.1) (hl2 : (i, Value.int v) :: L.filter (fun q => !(q.1 == i) && !(q.1 + 1 == i && q.2.category == 2)) = L2) (h : WC T μ ρ a (pc + 3) L2 st X n ce sl kc ks Φ) : WC T μ ρ a pc L st X n ce sl kc ks Φ := fun p e s m args below meth c H locs ls C0 hin hP hD hz hS hl => lv_iinc C0.1 C0.2.1 hd hl hj hv hn hl2 (fun ls hl => h p e s m args below meth c H locs ls C0 hin hP hD hz hS hl)
theorem WC.goto {off : Int} {tgt : Nat} (hd : decode μ.2.2.1 pc = .ok (.goto off, 3)) (ht : (pc : Int) + off = (tgt : Int)) (h : WC T μ ρ a tgt L st X n ce sl kc ks Φ) : WC T μ ρ a pc L st X n ce sl kc ks Φ := fun p e s m args below meth c H locs ls C0 hin hP hD hz hS hl => lv_goto C0.1 C0.2.1 hd ht (h p e s m args below meth c H locs ls C0 hin hP hD hz hS hl)
theorem WC.icmp_ge {x y : Int32} {off : Int} {tgt : Nat} (hd : decode μ.2.2.1 pc = .ok (.if_icmp .ge off, 3)) (ht : (pc : Int) + off = (tgt : Int)) (h1 : y ≤ x → WC T μ ρ a tgt L st X n ce sl kc ks Φ) (h2 : ¬ y ≤ x → WC T μ ρ a (pc + 3) L st X n ce sl kc ks Φ) : WC T μ ρ a pc L (.int y :: .int x :: st) X n ce sl kc ks Φ := fun p e s m args below meth c H locs ls C0 hin hP hD hz hS hl => lv_icmp_ge C0.1 C0.2.1 hd ht (fun z => h1 z p e s m args below meth c H locs ls C0 hin hP hD hz hS hl) (fun z => h2 z p e s m args below meth c H locs ls C0 hin hP hD hz hS hl)
theorem WC.iast {q0 b N : Nat} {i x : Int32} {f : Nat → Int32} (hce : n = a + 1 + ce) (he : X[q0]? = some (b, .inl (T.2.2.1 1, N, .inl f))) (hin : vp_in i N) (hd : decode μ.2.2.1 pc = .ok (.iastore, 1)) (h : WC T μ ρ a (pc + 1) L st (X.set q0 (b, .inl (T.2.2.1 1, N, .inl (upd f i.toNatClampNeg x)))) n ce sl kc ks Φ) : WC T μ ρ a pc L (.int x :: .int i :: .ref b :: st) X n ce sl kc ks Φ := by
  intro p e s m args below meth c H locs ls C0 hi hP hD hz hS hl
  refine va_iast C0.1 C0.2.1 C0.2.2.2.2.2.2.2 hP hD (S_at hS) q0 0 he rfl hin hd (fun H1 locs1 hP1 hD1 hS1 => W_cap fun hcap => ?_)
  exact h p e s m args below meth c H1 locs1 ls C0 hi hP1 hD1 (by have := hS1.1; have := hi.2.2; omega) (S_trans hS hS1) hl
theorem WC.aast {q0 qk b v N : Nat} {i : Int32} {vs : List Value} {f : Nat → Option Nat} (hce : n = a + 1 + ce) (he : X[q0]? = some (b, .inl (T.2.2.1 5, N, .inr (.inr (.inr (.inr f)))))) (hv : X[qk]? = some (v, .inr (2, vs))) (hin : vp_in i N) (hd : decode μ.2.2.1 pc = .ok (.aastore, 1)) (h : WC T μ ρ a (pc + 1) L st (X.set q0 (b, .inl (T.2.2.1 5, N, .inr (.inr (.inr (.inr (va_up f i.toNatClampNeg (some v)))))))) n ce sl kc ks Φ) : WC T μ ρ a pc L (.ref v :: .int i :: .ref b :: st) X n ce sl kc ks Φ := by
  intro p e s m args below meth c H locs ls C0 hi hP hD hz hS hl
  refine va_astq (ci := 2) (r := (RX2, TX2, 7)) C0.1 C0.2.1 C0.2.2.2.2.2.2.2 hP hD (S_at hS) q0 4 qk he rfl hv rfl hin hd (fun H1 locs1 hP1 hD1 hS1 => W_cap fun hcap => ?_)
  exact h p e s m args below meth c H1 locs1 ls C0 hi hP1 hD1 (by have := hS1.1; have := hi.2.2; omega) (S_trans hS hS1) hl
/-- a method of the object, over the whole block -/
theorem WC.callR {ν : Mt} {idx ci k N : Nat} {U : u_T} {M : Mm} {Q' : Mm → Prop} (hc : Cv μ.1 idx ν 0) (hcl : vwCl[ci]? = some (ν.1, U, N)) (hO : T.2.2.2.2.2 a = (0, ci)) (hn : n = a + k) (hce : n = a + 1 + ce) (hX : ∀ H : Heap, va_P T.2.1 vwCl X H → RR (Tb T a k) M H) (hrm : (mRm ν).frames + 1 ≤ ρ.frames ∧ 8 + (ν.2.2.2.1 + 11) + (mRm ν).locals ≤ ρ.locals) (hroom : ce ≤ ρ.cells ∧ sl ≤ ρ.slots) (hd : decode μ.2.2.1 pc = .ok (.invokevirtual idx, 3)) (h : WPv (Tb T a k) ν [.ref a] M Q') (hk : ∀ M', Q' M' → WC T μ ρ a (pc + 3) L [] (wl (Tb T a k) M') n ce sl kc ks Φ) : WC T μ ρ a pc L [.ref a] X n ce sl kc ks Φ := by
  intro p e s m args below meth c H locs ls C0 hi hP hD hz hS hl
  have C0' := C0
  obtain ⟨hx, hb, hr, hml, hown, hts, hlk, hK⟩ := C0
  have hR := hX H hP
  have hOb : Ob (Tb T a k) a (0, ci) := ⟨⟨Nat.le_refl _, by show a < a + k; omega⟩, hO⟩
  obtain ⟨j, hget⟩ := wl_get (M := M) hOb
  rw [cell_obj hOb] at hget
  have hrun := va_runV (e := e) (below := below) (meth := meth) (locs := locs) (cells := ce) (slots := sl) (R := ρ) (As := []) (g := F0 m pc ls [.ref a]) (rest := []) (Ts := wsA) (C := ν.1) ⟨hx, hb, hml, hown, hts⟩ h ⟨callB_of 0 hts (good_mWs hc.2.2.2.2.1) rfl rfl rfl (hts _ hc.2.2.2.1) (hts _ hc.1) hc.2.2.2.2.2 hrm, hts _ hc.2.1, hts _ hc.2.2.1⟩ ⟨blind_P, va_recv (D := T.2.1) hK hR hcl hget, fun U hU hW => ⟨rfl, by rw [hU]; exact hR, va_K.moved hW.alike hK⟩⟩ rfl rfl hl.1 rfl (lv_room (by decide)) hd ⟨hroom.1, hroom.2⟩
  intro Tt hT Xs
  obtain ⟨v, st₀, t, T', Ls, h0, X', hL, e1, e2, ⟨⟨r, M', hv, ⟨hq0, hq⟩, hR', hK'⟩, hzz, hkk⟩, go⟩ := hrun Tt hT Xs
  subst hq0
  cases hv
  rw [h0] at hzz hkk
  have hS' : va_S (fun q => a ≤ q) s.heap T'.heap (locs ++ Ls) := by
    refine ⟨Nat.le_trans hS.1 (by rw [e1]; exact hzz), fun q h1 h2 => ?_, fun q hq2 => ?_⟩
    · rw [e1, hkk q (Nat.lt_of_lt_of_le h1 hS.1) (fun h3 => h2 h3.1)]
      exact hS.2.1 q h1 h2
    · rcases List.mem_append.mp hq2 with h | h
      · exact hS.2.2 q h
      · exact (hL q h).1
  have hD' : va_D (fun q => a ≤ q) (wl (Tb T a k) M') := by
    have h5 := wl_D (Tb T a k) M'
    exact ⟨h5.1, fun i q hq => (h5.2 i q hq).1⟩
  have hsz : T'.heap.size = n := by
    have h6 : T'.heap.size ≤ s.heap.size + (ce + 0) := X'.same.2.2.1
    have h7 := hi.2.2
    rw [e1] at h6 ⊢
    omega
  obtain ⟨t2, a1, b1⟩ := hk M' hq p e s m args below meth c T'.heap (locs ++ Ls) ls C0' hi (by rw [e1]; exact hR') hD' hsz hS' hl T' rfl X'
  exact ⟨t2, go t2 a1, b1⟩
end
