/-! CONSTRUCTORS: fields, calls -/
theorem NwA.warm {s U : State} (hW : s.WarmedH U.vm) (h : NwA s) : NwA U := ⟨fun q hq => va_Nw.warmM hW (h.1 q hq), va_AO.moved hW.alike h.2⟩
theorem NwA.same {s U : State} (hv : s.vm = U.vm) (h : NwA s) : NwA U := ⟨fun q hq => va_Nw.same rfl hv (h.1 q hq), va_AO.moved (by rw [hv]; exact Vm.Alike.refl _) h.2⟩
section
variable {T : Th} {μ : Mt} {ρ : Room} {a pc : Nat} {L : List (Nat × Value)} {st : List Value} {X : va_W} {n ce sl kc ks : Nat} {Φ : Heap → Prop}
theorem WC.putF {idx ci k q0 b N : Nat} {C : String} {U : u_T} {ty : Nat → FieldType} {fs : List Value} {v : Value} (hcl : ClsOK ci C U N ty) (hk : k < N) (hlk : Cond.fieldLink μ.1 idx (U k).1 (U k).2.1 (U k).2.2.1 ∈ wsA) (hfin : (U k).2.2.2 = true) (hdecl : (U k).1 = μ.1) (he : X[q0]? = some (b, .inr (ci, fs))) (hn : narrow (ty k) v = v) (hfit : fits (ty k) v = true) (hl : k < fs.length) (hd : decode μ.2.2.1 pc = .ok (.putfield idx, 3)) (h : WC T μ ρ a (pc + 3) L st (X.set q0 (b, .inr (ci, fs.set k v))) n ce sl kc ks Φ) : WC T μ ρ a pc L (v :: .ref b :: st) X n ce sl kc ks Φ := by
  intro p e s m args below meth c H locs ls C0 hin hP hD hz hS hll
  have hts := C0.2.2.2.2.2.1
  have hK := C0.2.2.2.2.2.2.2
  have hown := C0.2.2.2.2.1
  have hap := va_apart (own := μ.1) hts hcl.2.1 ty hcl.2.2.1 hcl.2.2.2.1 hK hcl.1
  obtain ⟨r, h1, cell, q1, q2, q3, q4⟩ := hP q0 _ he
  have hr : r = (C, U, N) := Option.some.inj (h1.symm.trans hcl.1)
  subst hr
  obtain ⟨hSx, hfc, kC, hkC, hkind⟩ := hK.1 ci _ hcl.1
  obtain ⟨cf, kf, fi, f, hi, hsl⟩ := hSx k hk
  have hlay := hts _ (hcl.2.1 _ (u_in_lay hk))
  unfold u_lay at hlay
  rw [if_pos hfin] at hlay
  have hst := (u_facts hfc hkC (u_lays hts hcl.2.1 hk) hi).1
  have hcf : m.cls = cf := by
    obtain ⟨_, _, c', _, _, _, -, -, hf', -, -, -, hown2, -⟩ := Cond.laysFinal_spec hlay
    have e1 : c' = cf := by have := hi.symm.trans hf'; simp at this; exact this.1.symm
    rw [hdecl] at hown2
    rw [← e1]; exact Option.some.inj (hown.symm.trans hown2)
  have h6 := u_fits hfc hkC hkind (Or.inr hlay) hi (hcl.2.2.1 k hk) hn hfit
  refine W.putFinK C0.1 C0.2.1 hown (hts _ hlk) hi hst hcf hin.1 (by rw [q2]; exact h6) q1 q3 (by rw [hsl]; exact k2_hasslot (q4 k hk)) rfl rfl hd fun H' e1 e2 e3 => ?_
  rw [hsl] at e1 ⊢
  exact h p e s m args below meth c H' _ ls C0 hin (hP.set hD he ⟨_, hcl.1, t_OB.to (V := updV (vp_V fs) k v) ⟨_, e1, q2, q3, t_set q4 hap hk v⟩ (fun j _ => vp_updV_set hl v j)⟩ e3) (hD.set he) (e2.trans hz) (hS.put e2 e3 (hD.2 q0 _ he)) hll
theorem WC.put {idx ci k q0 b N : Nat} {C : String} {U : u_T} {ty : Nat → FieldType} {fs : List Value} {v : Value} (hcl : ClsOK ci C U N ty) (hk : k < N) (hlk : Cond.fieldLink μ.1 idx (U k).1 (U k).2.1 (U k).2.2.1 ∈ wsA) (hfin : (U k).2.2.2 = false) (he : X[q0]? = some (b, .inr (ci, fs))) (hn : narrow (ty k) v = v) (hfit : fits (ty k) v = true) (hl : k < fs.length) (hd : decode μ.2.2.1 pc = .ok (.putfield idx, 3)) (h : WC T μ ρ a (pc + 3) L st (X.set q0 (b, .inr (ci, fs.set k v))) n ce sl kc ks Φ) : WC T μ ρ a pc L (v :: .ref b :: st) X n ce sl kc ks Φ := by
  intro p e s m args below meth c H locs ls C0 hin hP hD hz hS hll
  have hts := C0.2.2.2.2.2.1
  have hK := C0.2.2.2.2.2.2.2
  have hown := C0.2.2.2.2.1
  have hap := va_apart (own := μ.1) hts hcl.2.1 ty hcl.2.2.1 hcl.2.2.2.1 hK hcl.1
  obtain ⟨r, h1, cell, q1, q2, q3, q4⟩ := hP q0 _ he
  have hr : r = (C, U, N) := Option.some.inj (h1.symm.trans hcl.1)
  subst hr
  obtain ⟨hSx, hfc, kC, hkC, hkind⟩ := hK.1 ci _ hcl.1
  obtain ⟨cf, kf, fi, f, hi, hsl⟩ := hSx k hk
  have hlay := hts _ (hcl.2.1 _ (u_in_lay hk))
  unfold u_lay at hlay
  rw [if_neg (by rw [hfin]; decide)] at hlay
  have hst := (u_facts hfc hkC (u_lays hts hcl.2.1 hk) hi).1
  have h6 := u_store hfc hkC hkind hlay hi (hcl.2.2.1 k hk) hn hfit
  refine W.putK C0.1 C0.2.1 (f := f) ⟨hown, hts _ hlk, ⟨_, _, _, hi⟩, hst⟩ (by rw [q2]; exact h6) q1 q3 (by rw [hsl]; exact k2_hasslot (q4 k hk)) rfl rfl hd fun H' e1 e2 e3 => ?_
  rw [hsl] at e1 ⊢
  exact h p e s m args below meth c H' _ ls C0 hin (hP.set hD he ⟨_, hcl.1, t_OB.to (V := updV (vp_V fs) k v) ⟨_, e1, q2, q3, t_set q4 hap hk v⟩ (fun j _ => vp_updV_set hl v j)⟩ e3) (hD.set he) (e2.trans hz) (hS.put e2 e3 (hD.2 q0 _ he)) hll
theorem WC.get {idx ci k q0 b N : Nat} {C : String} {U : u_T} {ty : Nat → FieldType} {fs : List Value} {v : Value} (hcl : ClsOK ci C U N ty) (hk : k < N) (hlk : Cond.fieldLink μ.1 idx (U k).1 (U k).2.1 (U k).2.2.1 ∈ wsA) (he : X[q0]? = some (b, .inr (ci, fs))) (hv : fs[k]? = some v) (hd : decode μ.2.2.1 pc = .ok (.getfield idx, 3)) (h : WC T μ ρ a (pc + 3) L (v :: st) X n ce sl kc ks Φ) : WC T μ ρ a pc L (.ref b :: st) X n ce sl kc ks Φ := by
  intro p e s m args below meth c H locs ls C0 hin hP hD hz hS hll
  exact va_get C0.1 C0.2.1 C0.2.2.2.2.2.1 hcl.2.1 C0.2.2.2.2.1 C0.2.2.2.2.2.2.2 hP q0 he hcl.1 k hk (C0.2.2.2.2.2.1 _ hlk) (fun _ h9 => h9) hv hd (h p e s m args below meth c H locs ls C0 hin hP hD hz hS hll)
theorem WC.objInit {idx b : Nat} (hlk : Cond.methodLink μ.1 idx objectInit ∈ wsA ∧ Cond.instanceMethod objectInit ∈ wsA ∧ Cond.code objectInit ⟨#[0xb1]⟩ 1 none ∈ wsA) (hf : 1 ≤ ρ.frames) (hlo : 12 ≤ ρ.locals) (hd : decode μ.2.2.1 pc = .ok (.invokespecial idx, 3)) (h : WC T μ ρ a (pc + 3) L [] X n ce sl kc ks Φ) : WC T μ ρ a pc L [.ref b] X n ce sl kc ks Φ := by
  intro p e s m args below meth c H locs ls C0 hin hP hD hz hS hll
  refine W.objInit C0.1 C0.2.1 C0.2.2.2.2.1 (C0.2.2.2.2.2.1 _ hlk.1) (C0.2.2.2.2.2.1 _ hlk.2.1) (C0.2.2.2.2.2.1 _ hlk.2.2) rfl (hll.1.trans C0.2.2.2.1.symm) rfl hd hf hlo ?_
  exact W.eq (g2 := F0 m (pc + 3) ls []) rfl (h p e s m args below meth c H locs ls C0 hin hP hD hz hS hll)
end
