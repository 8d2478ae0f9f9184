/-! THE CLAIM OUT OF ONE WALK OF THE LAW'S BODY. Your part is whole_start (and what it stands on); all else here is the same for every law, but numbers. -/
def R_law : String := "WheelTownLaw"
def lw_P (b : Addr) (xs : List Int32) (args : Array Value) (s : State) : Prop := args = #[.ref b] ∧ s.IntsAt b xs ∧ xs.length ≤ 320 ∧ (Jvm.Cond.and given_1 narrow_1).before args s = true
def lw_Q (_ : Array Value) (s : State) (o : Outcome) (t : State) : Prop := o = .returned (some (.int 1)) ∧ Framed s o t [] 600000 7302250
def lw_Z (below : List Frame) (a : Array Value) (s : State) : State → Prop := fun t => ∃ o, t.status = .running ∧ Ended t below o ∧ lw_Q a s o t
/-- the law's own end, with 1 on the stack, nothing written that was there before, its room as the claim has it -/
theorem lw_ret {p : Program} {l : Launch} {e : Env} {s : State} {m : MethodId} {below : List Frame} {meth : Method} {c : Code} {b : Nat} (hx : p.tables.exec = Jvm.exec) (hb : c.code = code) (hr : meth.sig.returnType = ret) (hlocks : meth.locks = false) {pc : Nat} {H : Heap} {ls : Array Slot} (hdg : decode code pc = .ok (.ireturn, 1)) : W p l e room_1 s m #[Value.ref b] below meth c H [] 600000 7302250 (lw_Z below #[Value.ref b] s) (F0 m pc ls [.int 1]) := by
  intro T hT X
  obtain ⟨fs, hret, hrun, hended, hW, hframe⟩ := X.leave (v := some (.int 1)) (hlocks := hlocks) (fun h => by rw [hr] at h; cases h)
  have hmeth' : T.vm.method? m = some meth := X.method'
  refine ⟨T.setFrames fs, ?_, .returned (some (.int 1)), hrun, hended, rfl, ⟨_, rfl⟩, hW, hframe⟩
  jvm_step X.here [X.here.top, hx, hb, hdg, hmeth', hr, ret, narrow_b1]
  (try refine ⟨rfl, ?_⟩); (try refine ⟨rfl, ?_⟩)
  first | (intro acts; rw [hret _ acts rfl rfl rfl]) | rw [hret _ _ rfl rfl rfl]
  exact Steps.refl _
/-- what holds at the law's entry: the machine, the code, the tables' words (any of lw_tbl by 'hts w (by decide +kernel)'), the script of L ints xs at the cell b, what the Statement gives of the start (any of its parts by flat_of_before) -/
def lw_At (p : Program) (s : State) (m : MethodId) (meth : Method) (c : Code) (b L : Nat) (xs : Nat → Int32) : Prop :=
  p.tables.exec = Jvm.exec ∧ c.code = code ∧ meth.sig.returnType = ret ∧ c.maxLocals = 4 ∧ s.vm.findClass R_law = some m.cls ∧ (∀ w ∈ lw_tbl, w.before #[Value.ref b] s = true) ∧ va_X b L xs s s.heap ∧ b < s.heap.size ∧ meth.locks = false ∧ (Jvm.Cond.and given_1 narrow_1).before #[Value.ref b] s = true
/-! THE LAW: the class's world T, the reference's Tb T y 26, both behind all that was there before -/
def LX (T : Th) (y b L : Nat) (xs : Nat → Int32) (p : Program) (s : State) (m : MethodId) (meth : Method) (c : Code) : Prop :=
  lw_At p s m meth c b L xs ∧ va_K T.2.1 vwCl (tyL T) s ∧ s.heap.size ≤ T.2.2.2.1 ∧ T.2.2.2.1 + T.2.2.2.2.1 ≤ y
def LW (T : Th) (y b L : Nat) (xs : Nat → Int32) (pc : Nat) (Lo : List (Nat × Value)) (st : List Value) (M M' : Mm) : Prop :=
  ∀ (p : Program) (e : Env) (s : State) (m : MethodId) (below : List Frame) (meth : Method) (c : Code) (H : Heap) (ls : Array Slot), LX T y b L xs p s m meth c → RR T M H → RR (Tb T y 26) M' H → va_S (fun q => s.heap.size ≤ q) s.heap H [] → lv_has ls 4 Lo → W p T.1 e room_1 s m #[Value.ref b] below meth c H [] 600000 7302250 (lw_Z below #[Value.ref b] s) (F0 m pc ls st)
section
variable {T : Th} {y b L pc : Nat} {xs : Nat → Int32} {Lo : List (Nat × Value)} {st : List Value} {M M' : Mm}
theorem LW.aload_n {k : Fin 4} {i x : Nat} (j : Nat) (hd : decode cL_law pc = .ok (.aload_n k, 1)) (hi : (k : Nat) = i) (hj : Lo[j]? = some (i, .ref x)) (h : LW T y b L xs (pc + 1) Lo (.ref x :: st) M M') : LW T y b L xs pc Lo st M M' := fun p e s m below meth c H ls X hR hR' hS hl => lv_aload_n X.1.1 X.1.2.1 hd hi (lv_at hl j hj) (h p e s m below meth c H ls X hR hR' hS hl)
theorem LW.iload_n {k : Fin 4} {i : Nat} {x : Int32} (j : Nat) (hd : decode cL_law pc = .ok (.iload_n k, 1)) (hi : (k : Nat) = i) (hj : Lo[j]? = some (i, .int x)) (h : LW T y b L xs (pc + 1) Lo (.int x :: st) M M') : LW T y b L xs pc Lo st M M' := fun p e s m below meth c H ls X hR hR' hS hl => lv_iload_n X.1.1 X.1.2.1 hd hi (lv_at hl j hj) (h p e s m below meth c H ls X hR hR' hS hl)
theorem LW.iconst {k : Int} {v : Int32} (hd : decode cL_law pc = .ok (.iconst k, 1)) (hv : Int32.ofInt k = v) (h : LW T y b L xs (pc + 1) Lo (.int v :: st) M M') : LW T y b L xs pc Lo st M M' := fun p e s m below meth c H ls X hR hR' hS hl => lv_iconst X.1.1 X.1.2.1 hd hv (h p e s m below meth c H ls X hR hR' hS hl)
theorem LW.bipush {k : Int} {v : Int32} (hd : decode cL_law pc = .ok (.bipush k, 2)) (hv : (Int8.ofInt k).toInt32 = v) (h : LW T y b L xs (pc + 2) Lo (.int v :: st) M M') : LW T y b L xs pc Lo st M M' := fun p e s m below meth c H ls X hR hR' hS hl => lv_bipush X.1.1 X.1.2.1 hd hv (h p e s m below meth c H ls X hR hR' hS hl)
theorem LW.iadd {u v : Int32} (hd : decode cL_law pc = .ok (.iadd, 1)) (h : LW T y b L xs (pc + 1) Lo (.int (u + v) :: st) M M') : LW T y b L xs pc Lo (.int v :: .int u :: st) M M' := fun p e s m below meth c H ls X hR hR' hS hl => lv_iadd X.1.1 X.1.2.1 hd (h p e s m below meth c H ls X hR hR' hS hl)
theorem LW.isub {u v : Int32} (hd : decode cL_law pc = .ok (.isub, 1)) (h : LW T y b L xs (pc + 1) Lo (.int (u - v) :: st) M M') : LW T y b L xs pc Lo (.int v :: .int u :: st) M M' := fun p e s m below meth c H ls X hR hR' hS hl => lv_isub X.1.1 X.1.2.1 hd (h p e s m below meth c H ls X hR hR' hS hl)
theorem LW.iand {u v : Int32} (hd : decode cL_law pc = .ok (.iand, 1)) (h : LW T y b L xs (pc + 1) Lo (.int (u &&& v) :: st) M M') : LW T y b L xs pc Lo (.int v :: .int u :: st) M M' := fun p e s m below meth c H ls X hR hR' hS hl => lv_iand X.1.1 X.1.2.1 hd (h p e s m below meth c H ls X hR hR' hS hl)
theorem LW.lcmp {u v : Int64} (hd : decode cL_law pc = .ok (.lcmp, 1)) (h : LW T y b L xs (pc + 1) Lo (.int (lg_cmp u v) :: st) M M') : LW T y b L xs pc Lo (.long v :: .long u :: st) M M' := fun p e s m below meth c H ls X hR hR' hS hl => W.lcmp X.1.1 X.1.2.1 hd (h p e s m below meth c H ls X hR hR' hS hl)
theorem LW.if_eq {u : Int32} {off : Int} {tgt : Nat} (hd : decode cL_law pc = .ok (.ifCond .eq off, 3)) (ht : (pc : Int) + off = (tgt : Int)) (h1 : u = 0 → LW T y b L xs tgt Lo st M M') (h2 : ¬ u = 0 → LW T y b L xs (pc + 3) Lo st M M') : LW T y b L xs pc Lo (.int u :: st) M M' := fun p e s m below meth c H ls X hR hR' hS hl => lv_if_eq X.1.1 X.1.2.1 hd ht (fun z => h1 z p e s m below meth c H ls X hR hR' hS hl) (fun z => h2 z p e s m below meth c H ls X hR hR' hS hl)
theorem LW.icmp_eq {u v : Int32} {off : Int} {tgt : Nat} (hd : decode cL_law pc = .ok (.if_icmp .eq off, 3)) (ht : (pc : Int) + off = (tgt : Int)) (h1 : u = v → LW T y b L xs tgt Lo st M M') (h2 : ¬ u = v → LW T y b L xs (pc + 3) Lo st M M') : LW T y b L xs pc Lo (.int v :: .int u :: st) M M' := fun p e s m below meth c H ls X hR hR' hS hl => lv_icmp_eq X.1.1 X.1.2.1 hd ht (fun z => h1 z p e s m below meth c H ls X hR hR' hS hl) (fun z => h2 z p e s m below meth c H ls X hR hR' hS hl)
theorem LW.icmp_gt {u v : Int32} {off : Int} {tgt : Nat} (hd : decode cL_law pc = .ok (.if_icmp .gt off, 3)) (ht : (pc : Int) + off = (tgt : Int)) (h1 : v < u → LW T y b L xs tgt Lo st M M') (h2 : ¬ v < u → LW T y b L xs (pc + 3) Lo st M M') : LW T y b L xs pc Lo (.int v :: .int u :: st) M M' := fun p e s m below meth c H ls X hR hR' hS hl => lv_icmp_gt X.1.1 X.1.2.1 hd ht (fun z => h1 z p e s m below meth c H ls X hR hR' hS hl) (fun z => h2 z p e s m below meth c H ls X hR hR' hS hl)
theorem LW.iinc {i : Nat} {d : Int} {u v : Int32} {L2 : List (Nat × Value)} (j : Nat) (hd : decode cL_law pc = .ok (.iinc i d, 3)) (hj : Lo[j]? = some (i, .int u)) (hv : u + Int32.ofInt d = v) (hn : i < 4) (hl2 : (i, Value.int v) :: Lo.filter (fun q => !(q.1 == i) && !(q.1 + 1 == i && q.2.category == 2)) = L2) (h : LW T y b L xs (pc + 3) L2 st M M') : LW T y b L xs pc Lo st M M' := fun p e s m below meth c H ls X hR hR' hS hl => lv_iinc X.1.1 X.1.2.1 hd hl hj hv hn hl2 (fun ls hl => h p e s m below meth c H ls X hR hR' hS hl)
theorem LW.goto {off : Int} {tgt : Nat} (hd : decode cL_law pc = .ok (.goto off, 3)) (ht : (pc : Int) + off = (tgt : Int)) (h : LW T y b L xs tgt Lo st M M') : LW T y b L xs pc Lo st M M' := fun p e s m below meth c H ls X hR hR' hS hl => lv_goto X.1.1 X.1.2.1 hd ht (h p e s m below meth c H ls X hR hR' hS hl)
theorem LW.tableOut {dflt lo hi : Int} {offs : Array Int} {len : Nat} {u : Int32} {tgt : Nat} (hd : decode cL_law pc = .ok (.tableswitch dflt lo hi offs, len)) (h0 : u.toInt < lo ∨ hi < u.toInt) (ht : (pc : Int) + dflt = (tgt : Int)) (h : LW T y b L xs tgt Lo st M M') : LW T y b L xs pc Lo (.int u :: st) M M' := fun p e s m below meth c H ls X hR hR' hS hl => lv_tableOut X.1.1 X.1.2.1 hd h0 ht (h p e s m below meth c H ls X hR hR' hS hl)
theorem LW.tableIn {dflt lo hi off : Int} {offs : Array Int} {len : Nat} {u : Int32} {tgt : Nat} (hd : decode cL_law pc = .ok (.tableswitch dflt lo hi offs, len)) (h1 : ¬ u.toInt < lo) (h2 : ¬ hi < u.toInt) (ho : offs[(u.toInt - lo).toNat]? = some off) (ht : (pc : Int) + off = (tgt : Int)) (h : LW T y b L xs tgt Lo st M M') : LW T y b L xs pc Lo (.int u :: st) M M' := fun p e s m below meth c H ls X hR hR' hS hl => lv_tableIn X.1.1 X.1.2.1 hd h1 h2 ho ht (h p e s m below meth c H ls X hR hR' hS hl)
theorem LX.b_out {p : Program} {s : State} {m : MethodId} {meth : Method} {c : Code} (X : LX T y b L xs p s m meth c) : b < s.heap.size := X.1.2.2.2.2.2.2.2.1
theorem LX.sc {p : Program} {s : State} {m : MethodId} {meth : Method} {c : Code} (X : LX T y b L xs p s m meth c) : va_X b L xs s s.heap := X.1.2.2.2.2.2.2.1
theorem LX.ts {p : Program} {s : State} {m : MethodId} {meth : Method} {c : Code} (X : LX T y b L xs p s m meth c) : ∀ w ∈ wsA, w.before #[Value.ref b] s = true := fun w hw => X.1.2.2.2.2.2.1 w (wsA_tbl hw)
theorem LW.sld {i : Int32} (hin : vp_in i L) (hd : decode cL_law pc = .ok (.iaload, 1)) (h : LW T y b L xs (pc + 1) Lo (.int (xs i.toNatClampNeg) :: st) M M') : LW T y b L xs pc Lo (.int i :: .ref b :: st) M M' := fun p e s m below meth c H ls X hR hR' hS hl => va_sld X.1.1 X.1.2.1 X.sc X.b_out (fun q => absurd X.b_out (Nat.not_lt.mpr q)) hS hin hd (h p e s m below meth c H ls X hR hR' hS hl)
theorem LW.slen (hd : decode cL_law pc = .ok (.arraylength, 1)) (h : LW T y b L xs (pc + 1) Lo (.int (nI L) :: st) M M') : LW T y b L xs pc Lo (.ref b :: st) M M' := fun p e s m below meth c H ls X hR hR' hS hl => va_slen X.1.1 X.1.2.1 X.sc X.b_out (fun q => absurd X.b_out (Nat.not_lt.mpr q)) hS hd (h p e s m below meth c H ls X hR hR' hS hl)
theorem LW.ret (hd : decode cL_law pc = .ok (.ireturn, 1)) : LW T y b L xs pc Lo [.int 1] M M' := fun p e s m below meth c H ls X hR hR' hS hl => lw_ret X.1.1 X.1.2.1 X.1.2.2.1 X.1.2.2.2.2.2.2.2.2.1 hd
/-- the class is called -/
theorem LW.callC {ν : Mt} {idx n x N : Nat} {U : u_T} {sk As : List Value} {QQ : Option Value → Mm → Prop} (hc : Cv RL idx ν n) (hO : Ob T x (0, 6)) (hcl : vwCl[6]? = some (ν.1, U, N)) (hn : As.length = n) (hrm : (mRm ν).frames + 1 ≤ 10 ∧ 8 + (ν.2.2.2.1 + 11) + (mRm ν).locals ≤ 352) (hst : (st.map fun v => v.category).sum ≤ 8) (hsk : sk = As.reverse ++ .ref x :: st) (hd : decode cL_law pc = .ok (.invokevirtual idx, 3))
    (h : WPM T ν (.ref x :: As) M QQ) (hk : ∀ r N, QQ r N → LW T y b L xs (pc + 3) Lo (r.toList ++ st) N M') : LW T y b L xs pc Lo sk M M' := by
  intro p e s m below meth c H ls X hR hR' hS hl
  obtain ⟨j, hget⟩ := wl_get (M := M) hO
  rw [cell_obj hO] at hget
  have hts := X.ts
  have hrun := va_runV (e := e) (below := below) (meth := meth) (locs := []) (cells := 600000) (slots := 7302250) (R := room_1) (As := As) (g := F0 m pc ls sk) (rest := st) (Ts := wsA) (C := ν.1) ⟨X.1.1, X.1.2.1, X.1.2.2.2.1, (X.1.2.2.2.2.1 : s.vm.findClass RL = some m.cls), hts⟩ h ⟨callB_of n hts (good_mWs hc.2.2.2.2.1) rfl rfl rfl (hts _ hc.2.2.2.1) (hts _ hc.1) hc.2.2.2.2.2 hrm, hts _ hc.2.1, hts _ hc.2.2.1⟩ ⟨blind_P, va_recv X.2.1 hR hcl hget, fun U hU hW => ⟨rfl, by rw [hU]; exact hR, va_K.moved hW.alike X.2.1⟩⟩ rfl hn hl.1 hsk (lv_room hst) hd ⟨Nat.le_refl _, Nat.le_refl _⟩
  intro Tt hT Xs
  obtain ⟨v, st₀, t, T', Ls, h0, X', hL, e1, e2, ⟨⟨r, N', hv, hq, hR1, hK1⟩, hzz, hkk⟩, go⟩ := hrun Tt hT Xs
  cases hv
  rw [h0] at hzz hkk
  have hRy : RR (Tb T y 26) M' T'.heap := RR_kept hR' (fun a ha => by
    have ha' := Tb_AA.mp ha
    have hlt : a < H.size := ((RR_at.mp hR') a ha).lt
    rw [e1]
    exact hkk a hlt (fun q => by have := q.2; have := X.2.2.2; omega))
  have hS1 : va_S (fun q => s.heap.size ≤ q) s.heap T'.heap [] := ⟨Nat.le_trans hS.1 (by rw [e1]; exact hzz), fun q h1 h2 => by
    rw [e1, hkk q (Nat.lt_of_lt_of_le h1 hS.1) (fun z => h2 (Nat.le_trans X.2.2.1 z.1))]
    exact hS.2.1 q h1 h2, fun q hq2 => by cases hq2⟩
  obtain ⟨t2, a1, b1⟩ := W.forget (locs := []) (L := Ls) (fun q hq2 => Nat.le_trans X.2.2.1 (hL q hq2).1) (hk _ N' hq p e s m below meth c T'.heap ls X (by rw [e1]; exact hR1) hRy hS1 hl) T' rfl X'
  exact ⟨t2, go t2 a1, b1⟩
/-- the reference is called -/
theorem LW.callR {ν : Mt} {idx n N : Nat} {U : u_T} {sk As : List Value} {QQ : Option Value → Mm → Prop} (hc : Cv RL idx ν n) (hO : Ob (Tb T y 26) y (0, 7)) (hcl : vwCl[7]? = some (ν.1, U, N)) (hn : As.length = n) (hrm : (mRm ν).frames + 1 ≤ 10 ∧ 8 + (ν.2.2.2.1 + 11) + (mRm ν).locals ≤ 352) (hst : (st.map fun v => v.category).sum ≤ 8) (hsk : sk = As.reverse ++ .ref y :: st) (hd : decode cL_law pc = .ok (.invokevirtual idx, 3))
    (h : WPM (Tb T y 26) ν (.ref y :: As) M' QQ) (hk : ∀ r N', QQ r N' → LW T y b L xs (pc + 3) Lo (r.toList ++ st) M N') : LW T y b L xs pc Lo sk M M' := by
  intro p e s m below meth c H ls X hR hR' hS hl
  obtain ⟨j, hget⟩ := wl_get (M := M') hO
  rw [cell_obj hO] at hget
  have hts := X.ts
  have hrun := va_runV (e := e) (below := below) (meth := meth) (locs := []) (cells := 600000) (slots := 7302250) (R := room_1) (As := As) (g := F0 m pc ls sk) (rest := st) (Ts := wsA) (C := ν.1) ⟨X.1.1, X.1.2.1, X.1.2.2.2.1, (X.1.2.2.2.2.1 : s.vm.findClass RL = some m.cls), hts⟩ h ⟨callB_of n hts (good_mWs hc.2.2.2.2.1) rfl rfl rfl (hts _ hc.2.2.2.1) (hts _ hc.1) hc.2.2.2.2.2 hrm, hts _ hc.2.1, hts _ hc.2.2.1⟩ ⟨blind_P, va_recv (D := T.2.1) X.2.1 hR' hcl hget, fun U hU hW => ⟨rfl, by rw [hU]; exact hR', va_K.moved hW.alike X.2.1⟩⟩ rfl hn hl.1 hsk (lv_room hst) hd ⟨Nat.le_refl _, Nat.le_refl _⟩
  intro Tt hT Xs
  obtain ⟨v, st₀, t, T', Ls, h0, X', hL, e1, e2, ⟨⟨r, N', hv, hq, hR1, hK1⟩, hzz, hkk⟩, go⟩ := hrun Tt hT Xs
  cases hv
  rw [h0] at hzz hkk
  have hxy : s.heap.size ≤ y := Nat.le_trans X.2.2.1 (Nat.le_trans (Nat.le_add_right _ _) X.2.2.2)
  have hRx : RR T M T'.heap := RR_kept hR (fun a ha => by
    have hlt : a < H.size := ((RR_at.mp hR) a ha).lt
    rw [e1]
    exact hkk a hlt (fun q => by have q1 : y ≤ a := q.1; have := ha.2; have := X.2.2.2; omega))
  have hS1 : va_S (fun q => s.heap.size ≤ q) s.heap T'.heap [] := ⟨Nat.le_trans hS.1 (by rw [e1]; exact hzz), fun q h1 h2 => by
    rw [e1, hkk q (Nat.lt_of_lt_of_le h1 hS.1) (fun z => h2 (Nat.le_trans hxy z.1))]
    exact hS.2.1 q h1 h2, fun q hq2 => by cases hq2⟩
  obtain ⟨t2, a1, b1⟩ := W.forget (locs := []) (L := Ls) (fun q hq2 => Nat.le_trans hxy (hL q hq2).1) (hk _ N' hq p e s m below meth c T'.heap ls X hRx (by rw [e1]; exact hR1) hS1 hl) T' rfl X'
  exact ⟨t2, go t2 a1, b1⟩
end
