/-! THE LAW: its cases -/
abbrev LL (x y b i : Nat) : List (Nat × Value) := [(3, .int (nI i)), (2, .ref y), (1, .ref x), (0, .ref b)]
section
variable {T : Th} {x y b L pc : Nat} {xs : Nat → Int32} {st : List Value} {M M' : Mm}
theorem LW.arg {i j : Nat} {jj : Int} (hd0 : decode cL_law pc = .ok (.aload_n 0, 1)) (hd1 : decode cL_law (pc + 1) = .ok (.iload_n 3, 1)) (hd2 : decode cL_law (pc + 2) = .ok (.iconst jj, 1)) (hd3 : decode cL_law (pc + 3) = .ok (.iadd, 1)) (hd4 : decode cL_law (pc + 4) = .ok (.iaload, 1)) (hj : Int32.ofInt jj = nI j) (hL : L ≤ 320) (hi : i + j < L) (h : LW T y b L xs (pc + 5) (LL x y b i) (.int (xs (i + j)) :: st) M M') : LW T y b L xs pc (LL x y b i) st M M' := by
  refine LW.aload_n 3 hd0 rfl rfl ?_
  refine LW.iload_n 0 hd1 rfl rfl ?_
  refine LW.iconst hd2 hj ?_
  refine LW.iadd hd3 ?_
  rw [nI_add]
  refine LW.sld (vp_in_nI hi (by omega)) hd4 ?_
  rw [nI_clamp (by omega)]
  exact h
theorem cL_13 : Cv RL 13 mX6_type 1 := ⟨(wsA_in (tb2 (List.mem_of_getElem? (i := 32) rfl)) rfl), (wsA_in (tb2 (List.mem_of_getElem? (i := 33) rfl)) rfl), (wsA_in (tb2 (List.mem_of_getElem? (i := 34) rfl)) rfl), (wsA_in (tb1 (List.mem_of_getElem? (i := 1) rfl)) rfl), (wsA_in (tb2 (List.mem_of_getElem? (i := 35) rfl)) rfl), by decide +kernel⟩
theorem cL_17 : Cv RL 17 mX7_type 1 := ⟨(wsA_in (tb4 (List.mem_of_getElem? (i := 76) rfl)) rfl), (wsA_in (tb4 (List.mem_of_getElem? (i := 77) rfl)) rfl), (wsA_in (tb4 (List.mem_of_getElem? (i := 78) rfl)) rfl), (wsA_in (tb1 (List.mem_of_getElem? (i := 8) rfl)) rfl), (wsA_in (tb4 (List.mem_of_getElem? (i := 79) rfl)) rfl), by decide +kernel⟩
theorem lc_type {i : Nat} (hL : L ≤ 320) (hi : i + 5 ≤ L) (hC : LayC T x) (h7 : isX7 (Tb T y 26) y) (hI : Inv x y M M') (hk : ∀ N N', Inv x y N N' → LW T y b L xs 842 (LL x y b i) [] N N') : LW T y b L xs 152 (LL x y b i) [] M M' := by
  refine LW.aload_n 2 dL_law_152 rfl rfl ?_
  refine LW.arg (j := 1) dL_law_153 dL_law_154 dL_law_155 dL_law_156 dL_law_157 rfl hL (by omega) ?_
  refine LW.callC (As := [.int (xs (i + 1))]) cL_13 hC.1.1 rfl rfl ⟨by decide, by decide⟩ (Nat.le_of_ble_eq_true rfl) rfl dL_law_158 (e_type hC h7 hI) ?_
  rintro _ N ⟨r, rfl, hq⟩
  refine LW.aload_n 1 dL_law_161 rfl rfl ?_
  refine LW.arg (j := 1) dL_law_162 dL_law_163 dL_law_164 dL_law_165 dL_law_166 rfl hL (by omega) ?_
  refine LW.callR (As := [.int (xs (i + 1))]) cL_17 h7.1 rfl rfl ⟨by decide, by decide⟩ (Nat.le_of_ble_eq_true rfl) rfl dL_law_167 hq ?_
  rintro _ N' ⟨r', rfl, hr, hI'⟩
  subst hr
  exact LW.icmp_eq (tgt := 842) dL_law_170 rfl (fun _ => hk N N' hI') (fun hne => absurd rfl hne)
theorem cL_18 : Cv RL 18 mX6_clear 0 := ⟨(wsA_in (tb2 (List.mem_of_getElem? (i := 40) rfl)) rfl), (wsA_in (tb2 (List.mem_of_getElem? (i := 41) rfl)) rfl), (wsA_in (tb2 (List.mem_of_getElem? (i := 42) rfl)) rfl), (wsA_in (tb1 (List.mem_of_getElem? (i := 1) rfl)) rfl), (wsA_in (tb2 (List.mem_of_getElem? (i := 43) rfl)) rfl), by decide +kernel⟩
theorem cL_22 : Cv RL 22 mX7_clear 0 := ⟨(wsA_in (tb4 (List.mem_of_getElem? (i := 83) rfl)) rfl), (wsA_in (tb4 (List.mem_of_getElem? (i := 84) rfl)) rfl), (wsA_in (tb4 (List.mem_of_getElem? (i := 85) rfl)) rfl), (wsA_in (tb1 (List.mem_of_getElem? (i := 8) rfl)) rfl), (wsA_in (tb4 (List.mem_of_getElem? (i := 86) rfl)) rfl), by decide +kernel⟩
theorem lc_clear {i : Nat} (hL : L ≤ 320) (hi : i + 5 ≤ L) (hC : LayC T x) (h7 : isX7 (Tb T y 26) y) (hI : Inv x y M M') (hk : ∀ N N', Inv x y N N' → LW T y b L xs 842 (LL x y b i) [] N N') : LW T y b L xs 175 (LL x y b i) [] M M' := by
  refine LW.aload_n 2 dL_law_175 rfl rfl ?_
  refine LW.callC (As := []) cL_18 hC.1.1 rfl rfl ⟨by decide, by decide⟩ (Nat.le_of_ble_eq_true rfl) rfl dL_law_176 (e_clear hC h7 hI) ?_
  rintro _ N ⟨r, rfl, hq⟩
  refine LW.aload_n 1 dL_law_179 rfl rfl ?_
  refine LW.callR (As := []) cL_22 h7.1 rfl rfl ⟨by decide, by decide⟩ (Nat.le_of_ble_eq_true rfl) rfl dL_law_180 hq ?_
  rintro _ N' ⟨r', rfl, hr, hI'⟩
  subst hr
  exact LW.icmp_eq (tgt := 842) dL_law_183 rfl (fun _ => hk N N' hI') (fun hne => absurd rfl hne)
theorem cL_23 : Cv RL 23 mX6_world 0 := ⟨(wsA_in (tb2 (List.mem_of_getElem? (i := 44) rfl)) rfl), (wsA_in (tb2 (List.mem_of_getElem? (i := 45) rfl)) rfl), (wsA_in (tb2 (List.mem_of_getElem? (i := 46) rfl)) rfl), (wsA_in (tb1 (List.mem_of_getElem? (i := 1) rfl)) rfl), (wsA_in (tb2 (List.mem_of_getElem? (i := 47) rfl)) rfl), by decide +kernel⟩
theorem cL_26 : Cv RL 26 mX7_world 0 := ⟨(wsA_in (tb4 (List.mem_of_getElem? (i := 87) rfl)) rfl), (wsA_in (tb4 (List.mem_of_getElem? (i := 88) rfl)) rfl), (wsA_in (tb4 (List.mem_of_getElem? (i := 89) rfl)) rfl), (wsA_in (tb1 (List.mem_of_getElem? (i := 8) rfl)) rfl), (wsA_in (tb4 (List.mem_of_getElem? (i := 90) rfl)) rfl), by decide +kernel⟩
theorem lc_world {i : Nat} (hL : L ≤ 320) (hi : i + 5 ≤ L) (hC : LayC T x) (h7 : isX7 (Tb T y 26) y) (hI : Inv x y M M') (hk : ∀ N N', Inv x y N N' → LW T y b L xs 842 (LL x y b i) [] N N') : LW T y b L xs 188 (LL x y b i) [] M M' := by
  refine LW.aload_n 2 dL_law_188 rfl rfl ?_
  refine LW.callC (As := []) cL_23 hC.1.1 rfl rfl ⟨by decide, by decide⟩ (Nat.le_of_ble_eq_true rfl) rfl dL_law_189 (e_world hC h7 hI) ?_
  rintro _ N ⟨r, rfl, hq⟩
  refine LW.aload_n 1 dL_law_192 rfl rfl ?_
  refine LW.callR (As := []) cL_26 h7.1 rfl rfl ⟨by decide, by decide⟩ (Nat.le_of_ble_eq_true rfl) rfl dL_law_193 hq ?_
  rintro _ N' ⟨r', rfl, hr, hI'⟩
  subst hr
  exact LW.icmp_eq (tgt := 842) dL_law_196 rfl (fun _ => hk N N' hI') (fun hne => absurd rfl hne)
theorem cL_27 : Cv RL 27 mX6_place 2 := ⟨(wsA_in (tb2 (List.mem_of_getElem? (i := 161) rfl)) rfl), (wsA_in (tb2 (List.mem_of_getElem? (i := 162) rfl)) rfl), (wsA_in (tb2 (List.mem_of_getElem? (i := 163) rfl)) rfl), (wsA_in (tb1 (List.mem_of_getElem? (i := 1) rfl)) rfl), (wsA_in (tb2 (List.mem_of_getElem? (i := 164) rfl)) rfl), by decide +kernel⟩
theorem cL_31 : Cv RL 31 mX7_place 2 := ⟨(wsA_in (tb4 (List.mem_of_getElem? (i := 147) rfl)) rfl), (wsA_in (tb4 (List.mem_of_getElem? (i := 148) rfl)) rfl), (wsA_in (tb4 (List.mem_of_getElem? (i := 149) rfl)) rfl), (wsA_in (tb1 (List.mem_of_getElem? (i := 8) rfl)) rfl), (wsA_in (tb4 (List.mem_of_getElem? (i := 150) rfl)) rfl), by decide +kernel⟩
theorem lc_place {i : Nat} (hL : L ≤ 320) (hi : i + 5 ≤ L) (hC : LayC T x) (h7 : isX7 (Tb T y 26) y) (hI : Inv x y M M') (hk : ∀ N N', Inv x y N N' → LW T y b L xs 842 (LL x y b i) [] N N') : LW T y b L xs 201 (LL x y b i) [] M M' := by
  refine LW.aload_n 2 dL_law_201 rfl rfl ?_
  refine LW.arg (j := 1) dL_law_202 dL_law_203 dL_law_204 dL_law_205 dL_law_206 rfl hL (by omega) ?_
  refine LW.arg (j := 2) dL_law_207 dL_law_208 dL_law_209 dL_law_210 dL_law_211 rfl hL (by omega) ?_
  refine LW.callC (As := [.int (xs (i + 1)), .int (xs (i + 2))]) cL_27 hC.1.1 rfl rfl ⟨by decide, by decide⟩ (Nat.le_of_ble_eq_true rfl) rfl dL_law_212 (e_place hC h7 hI) ?_
  rintro _ N ⟨r, rfl, hq⟩
  refine LW.aload_n 1 dL_law_215 rfl rfl ?_
  refine LW.arg (j := 1) dL_law_216 dL_law_217 dL_law_218 dL_law_219 dL_law_220 rfl hL (by omega) ?_
  refine LW.arg (j := 2) dL_law_221 dL_law_222 dL_law_223 dL_law_224 dL_law_225 rfl hL (by omega) ?_
  refine LW.callR (As := [.int (xs (i + 1)), .int (xs (i + 2))]) cL_31 h7.1 rfl rfl ⟨by decide, by decide⟩ (Nat.le_of_ble_eq_true rfl) rfl dL_law_226 hq ?_
  rintro _ N' ⟨r', rfl, hr, hI'⟩
  subst hr
  exact LW.icmp_eq (tgt := 842) dL_law_229 rfl (fun _ => hk N N' hI') (fun hne => absurd rfl hne)
theorem cL_32 : Cv RL 32 mX6_wagon 2 := ⟨(wsA_in (tb2 (List.mem_of_getElem? (i := 166) rfl)) rfl), (wsA_in (tb2 (List.mem_of_getElem? (i := 167) rfl)) rfl), (wsA_in (tb2 (List.mem_of_getElem? (i := 168) rfl)) rfl), (wsA_in (tb1 (List.mem_of_getElem? (i := 1) rfl)) rfl), (wsA_in (tb2 (List.mem_of_getElem? (i := 169) rfl)) rfl), by decide +kernel⟩
theorem cL_35 : Cv RL 35 mX7_wagon 2 := ⟨(wsA_in (tb4 (List.mem_of_getElem? (i := 151) rfl)) rfl), (wsA_in (tb4 (List.mem_of_getElem? (i := 152) rfl)) rfl), (wsA_in (tb4 (List.mem_of_getElem? (i := 153) rfl)) rfl), (wsA_in (tb1 (List.mem_of_getElem? (i := 8) rfl)) rfl), (wsA_in (tb4 (List.mem_of_getElem? (i := 154) rfl)) rfl), by decide +kernel⟩
theorem lc_wagon {i : Nat} (hL : L ≤ 320) (hi : i + 5 ≤ L) (hC : LayC T x) (h7 : isX7 (Tb T y 26) y) (hI : Inv x y M M') (hk : ∀ N N', Inv x y N N' → LW T y b L xs 842 (LL x y b i) [] N N') : LW T y b L xs 234 (LL x y b i) [] M M' := by
  refine LW.aload_n 2 dL_law_234 rfl rfl ?_
  refine LW.arg (j := 1) dL_law_235 dL_law_236 dL_law_237 dL_law_238 dL_law_239 rfl hL (by omega) ?_
  refine LW.arg (j := 2) dL_law_240 dL_law_241 dL_law_242 dL_law_243 dL_law_244 rfl hL (by omega) ?_
  refine LW.callC (As := [.int (xs (i + 1)), .int (xs (i + 2))]) cL_32 hC.1.1 rfl rfl ⟨by decide, by decide⟩ (Nat.le_of_ble_eq_true rfl) rfl dL_law_245 (e_wagon hC h7 hI) ?_
  rintro _ N ⟨r, rfl, hq⟩
  refine LW.aload_n 1 dL_law_248 rfl rfl ?_
  refine LW.arg (j := 1) dL_law_249 dL_law_250 dL_law_251 dL_law_252 dL_law_253 rfl hL (by omega) ?_
  refine LW.arg (j := 2) dL_law_254 dL_law_255 dL_law_256 dL_law_257 dL_law_258 rfl hL (by omega) ?_
  refine LW.callR (As := [.int (xs (i + 1)), .int (xs (i + 2))]) cL_35 h7.1 rfl rfl ⟨by decide, by decide⟩ (Nat.le_of_ble_eq_true rfl) rfl dL_law_259 hq ?_
  rintro _ N' ⟨r', rfl, hr, hI'⟩
  subst hr
  exact LW.icmp_eq (tgt := 842) dL_law_262 rfl (fun _ => hk N N' hI') (fun hne => absurd rfl hne)
theorem cL_36 : Cv RL 36 mX6_now 1 := ⟨(wsA_in (tb2 (List.mem_of_getElem? (i := 175) rfl)) rfl), (wsA_in (tb2 (List.mem_of_getElem? (i := 176) rfl)) rfl), (wsA_in (tb2 (List.mem_of_getElem? (i := 177) rfl)) rfl), (wsA_in (tb1 (List.mem_of_getElem? (i := 1) rfl)) rfl), (wsA_in (tb2 (List.mem_of_getElem? (i := 178) rfl)) rfl), by decide +kernel⟩
theorem cL_39 : Cv RL 39 mX7_now 1 := ⟨(wsA_in (tb4 (List.mem_of_getElem? (i := 168) rfl)) rfl), (wsA_in (tb4 (List.mem_of_getElem? (i := 169) rfl)) rfl), (wsA_in (tb4 (List.mem_of_getElem? (i := 170) rfl)) rfl), (wsA_in (tb1 (List.mem_of_getElem? (i := 8) rfl)) rfl), (wsA_in (tb4 (List.mem_of_getElem? (i := 171) rfl)) rfl), by decide +kernel⟩
theorem lc_now {i : Nat} (hL : L ≤ 320) (hi : i + 5 ≤ L) (hC : LayC T x) (h7 : isX7 (Tb T y 26) y) (hI : Inv x y M M') (hk : ∀ N N', Inv x y N N' → LW T y b L xs 842 (LL x y b i) [] N N') : LW T y b L xs 267 (LL x y b i) [] M M' := by
  refine LW.aload_n 2 dL_law_267 rfl rfl ?_
  refine LW.arg (j := 1) dL_law_268 dL_law_269 dL_law_270 dL_law_271 dL_law_272 rfl hL (by omega) ?_
  refine LW.callC (As := [.int (xs (i + 1))]) cL_36 hC.1.1 rfl rfl ⟨by decide, by decide⟩ (Nat.le_of_ble_eq_true rfl) rfl dL_law_273 (e_now hC h7 hI) ?_
  rintro _ N ⟨r, rfl, hq⟩
  refine LW.aload_n 1 dL_law_276 rfl rfl ?_
  refine LW.arg (j := 1) dL_law_277 dL_law_278 dL_law_279 dL_law_280 dL_law_281 rfl hL (by omega) ?_
  refine LW.callR (As := [.int (xs (i + 1))]) cL_39 h7.1 rfl rfl ⟨by decide, by decide⟩ (Nat.le_of_ble_eq_true rfl) rfl dL_law_282 hq ?_
  rintro _ N' ⟨r', rfl, hr, hI'⟩
  subst hr
  exact LW.icmp_eq (tgt := 842) dL_law_285 rfl (fun _ => hk N N' hI') (fun hne => absurd rfl hne)
theorem cL_40 : Cv RL 40 mX6_sun 1 := ⟨(wsA_in (tb2 (List.mem_of_getElem? (i := 183) rfl)) rfl), (wsA_in (tb2 (List.mem_of_getElem? (i := 184) rfl)) rfl), (wsA_in (tb2 (List.mem_of_getElem? (i := 185) rfl)) rfl), (wsA_in (tb1 (List.mem_of_getElem? (i := 1) rfl)) rfl), (wsA_in (tb2 (List.mem_of_getElem? (i := 186) rfl)) rfl), by decide +kernel⟩
theorem cL_43 : Cv RL 43 mX7_sun 1 := ⟨(wsA_in (tb4 (List.mem_of_getElem? (i := 159) rfl)) rfl), (wsA_in (tb4 (List.mem_of_getElem? (i := 160) rfl)) rfl), (wsA_in (tb4 (List.mem_of_getElem? (i := 161) rfl)) rfl), (wsA_in (tb1 (List.mem_of_getElem? (i := 8) rfl)) rfl), (wsA_in (tb4 (List.mem_of_getElem? (i := 162) rfl)) rfl), by decide +kernel⟩
theorem lc_sun {i : Nat} (hL : L ≤ 320) (hi : i + 5 ≤ L) (hC : LayC T x) (h7 : isX7 (Tb T y 26) y) (hI : Inv x y M M') (hk : ∀ N N', Inv x y N N' → LW T y b L xs 842 (LL x y b i) [] N N') : LW T y b L xs 290 (LL x y b i) [] M M' := by
  refine LW.aload_n 2 dL_law_290 rfl rfl ?_
  refine LW.arg (j := 1) dL_law_291 dL_law_292 dL_law_293 dL_law_294 dL_law_295 rfl hL (by omega) ?_
  refine LW.callC (As := [.int (xs (i + 1))]) cL_40 hC.1.1 rfl rfl ⟨by decide, by decide⟩ (Nat.le_of_ble_eq_true rfl) rfl dL_law_296 (e_sun hC h7 hI) ?_
  rintro _ N ⟨r, rfl, hq⟩
  refine LW.aload_n 1 dL_law_299 rfl rfl ?_
  refine LW.arg (j := 1) dL_law_300 dL_law_301 dL_law_302 dL_law_303 dL_law_304 rfl hL (by omega) ?_
  refine LW.callR (As := [.int (xs (i + 1))]) cL_43 h7.1 rfl rfl ⟨by decide, by decide⟩ (Nat.le_of_ble_eq_true rfl) rfl dL_law_305 hq ?_
  rintro _ N' ⟨r', rfl, hr, hI'⟩
  subst hr
  exact LW.icmp_eq (tgt := 842) dL_law_308 rfl (fun _ => hk N N' hI') (fun hne => absurd rfl hne)
theorem cL_44 : Cv RL 44 mX6_minute 0 := ⟨(wsA_in (tb2 (List.mem_of_getElem? (i := 192) rfl)) rfl), (wsA_in (tb2 (List.mem_of_getElem? (i := 193) rfl)) rfl), (wsA_in (tb2 (List.mem_of_getElem? (i := 194) rfl)) rfl), (wsA_in (tb1 (List.mem_of_getElem? (i := 1) rfl)) rfl), (wsA_in (tb2 (List.mem_of_getElem? (i := 195) rfl)) rfl), by decide +kernel⟩
theorem cL_47 : Cv RL 47 mX7_minute 0 := ⟨(wsA_in (tb4 (List.mem_of_getElem? (i := 180) rfl)) rfl), (wsA_in (tb4 (List.mem_of_getElem? (i := 181) rfl)) rfl), (wsA_in (tb4 (List.mem_of_getElem? (i := 182) rfl)) rfl), (wsA_in (tb1 (List.mem_of_getElem? (i := 8) rfl)) rfl), (wsA_in (tb4 (List.mem_of_getElem? (i := 183) rfl)) rfl), by decide +kernel⟩
theorem lc_minute {i : Nat} (hL : L ≤ 320) (hi : i + 5 ≤ L) (hC : LayC T x) (h7 : isX7 (Tb T y 26) y) (hI : Inv x y M M') (hk : ∀ N N', Inv x y N N' → LW T y b L xs 842 (LL x y b i) [] N N') : LW T y b L xs 313 (LL x y b i) [] M M' := by
  refine LW.aload_n 2 dL_law_313 rfl rfl ?_
  refine LW.callC (As := []) cL_44 hC.1.1 rfl rfl ⟨by decide, by decide⟩ (Nat.le_of_ble_eq_true rfl) rfl dL_law_314 (e_minute hC h7 hI) ?_
  rintro _ N ⟨r, rfl, hq⟩
  refine LW.aload_n 1 dL_law_317 rfl rfl ?_
  refine LW.callR (As := []) cL_47 h7.1 rfl rfl ⟨by decide, by decide⟩ (Nat.le_of_ble_eq_true rfl) rfl dL_law_318 hq ?_
  rintro _ N' ⟨r', rfl, hr, hI'⟩
  subst hr
  exact LW.icmp_eq (tgt := 842) dL_law_321 rfl (fun _ => hk N N' hI') (fun hne => absurd rfl hne)
theorem cL_48 : Cv RL 48 mX6_stand 2 := ⟨(wsA_in (tb2 (List.mem_of_getElem? (i := 232) rfl)) rfl), (wsA_in (tb2 (List.mem_of_getElem? (i := 233) rfl)) rfl), (wsA_in (tb2 (List.mem_of_getElem? (i := 234) rfl)) rfl), (wsA_in (tb1 (List.mem_of_getElem? (i := 1) rfl)) rfl), (wsA_in (tb2 (List.mem_of_getElem? (i := 235) rfl)) rfl), by decide +kernel⟩
theorem cL_51 : Cv RL 51 mX7_stand 2 := ⟨(wsA_in (tb4 (List.mem_of_getElem? (i := 203) rfl)) rfl), (wsA_in (tb4 (List.mem_of_getElem? (i := 204) rfl)) rfl), (wsA_in (tb4 (List.mem_of_getElem? (i := 205) rfl)) rfl), (wsA_in (tb1 (List.mem_of_getElem? (i := 8) rfl)) rfl), (wsA_in (tb4 (List.mem_of_getElem? (i := 206) rfl)) rfl), by decide +kernel⟩
theorem lc_stand {i : Nat} (hL : L ≤ 320) (hi : i + 5 ≤ L) (hC : LayC T x) (h7 : isX7 (Tb T y 26) y) (hI : Inv x y M M') (hk : ∀ N N', Inv x y N N' → LW T y b L xs 842 (LL x y b i) [] N N') : LW T y b L xs 326 (LL x y b i) [] M M' := by
  refine LW.aload_n 2 dL_law_326 rfl rfl ?_
  refine LW.arg (j := 1) dL_law_327 dL_law_328 dL_law_329 dL_law_330 dL_law_331 rfl hL (by omega) ?_
  refine LW.arg (j := 2) dL_law_332 dL_law_333 dL_law_334 dL_law_335 dL_law_336 rfl hL (by omega) ?_
  refine LW.callC (As := [.int (xs (i + 1)), .int (xs (i + 2))]) cL_48 hC.1.1 rfl rfl ⟨by decide, by decide⟩ (Nat.le_of_ble_eq_true rfl) rfl dL_law_337 (e_stand hC h7 hI) ?_
  rintro _ N ⟨r, rfl, hq⟩
  refine LW.aload_n 1 dL_law_340 rfl rfl ?_
  refine LW.arg (j := 1) dL_law_341 dL_law_342 dL_law_343 dL_law_344 dL_law_345 rfl hL (by omega) ?_
  refine LW.arg (j := 2) dL_law_346 dL_law_347 dL_law_348 dL_law_349 dL_law_350 rfl hL (by omega) ?_
  refine LW.callR (As := [.int (xs (i + 1)), .int (xs (i + 2))]) cL_51 h7.1 rfl rfl ⟨by decide, by decide⟩ (Nat.le_of_ble_eq_true rfl) rfl dL_law_351 hq ?_
  rintro _ N' ⟨r', rfl, hr, hI'⟩
  subst hr
  exact LW.icmp_eq (tgt := 842) dL_law_354 rfl (fun _ => hk N N' hI') (fun hne => absurd rfl hne)
theorem cL_52 : Cv RL 52 mX6_change 2 := ⟨(wsA_in (tb2 (List.mem_of_getElem? (i := 236) rfl)) rfl), (wsA_in (tb2 (List.mem_of_getElem? (i := 237) rfl)) rfl), (wsA_in (tb2 (List.mem_of_getElem? (i := 238) rfl)) rfl), (wsA_in (tb1 (List.mem_of_getElem? (i := 1) rfl)) rfl), (wsA_in (tb2 (List.mem_of_getElem? (i := 239) rfl)) rfl), by decide +kernel⟩
theorem cL_55 : Cv RL 55 mX7_change 2 := ⟨(wsA_in (tb4 (List.mem_of_getElem? (i := 207) rfl)) rfl), (wsA_in (tb4 (List.mem_of_getElem? (i := 208) rfl)) rfl), (wsA_in (tb4 (List.mem_of_getElem? (i := 209) rfl)) rfl), (wsA_in (tb1 (List.mem_of_getElem? (i := 8) rfl)) rfl), (wsA_in (tb4 (List.mem_of_getElem? (i := 210) rfl)) rfl), by decide +kernel⟩
theorem lc_change {i : Nat} (hL : L ≤ 320) (hi : i + 5 ≤ L) (hC : LayC T x) (h7 : isX7 (Tb T y 26) y) (hI : Inv x y M M') (hk : ∀ N N', Inv x y N N' → LW T y b L xs 842 (LL x y b i) [] N N') : LW T y b L xs 359 (LL x y b i) [] M M' := by
  refine LW.aload_n 2 dL_law_359 rfl rfl ?_
  refine LW.arg (j := 1) dL_law_360 dL_law_361 dL_law_362 dL_law_363 dL_law_364 rfl hL (by omega) ?_
  refine LW.arg (j := 2) dL_law_365 dL_law_366 dL_law_367 dL_law_368 dL_law_369 rfl hL (by omega) ?_
  refine LW.callC (As := [.int (xs (i + 1)), .int (xs (i + 2))]) cL_52 hC.1.1 rfl rfl ⟨by decide, by decide⟩ (Nat.le_of_ble_eq_true rfl) rfl dL_law_370 (e_change hC h7 hI) ?_
  rintro _ N ⟨r, rfl, hq⟩
  refine LW.aload_n 1 dL_law_373 rfl rfl ?_
  refine LW.arg (j := 1) dL_law_374 dL_law_375 dL_law_376 dL_law_377 dL_law_378 rfl hL (by omega) ?_
  refine LW.arg (j := 2) dL_law_379 dL_law_380 dL_law_381 dL_law_382 dL_law_383 rfl hL (by omega) ?_
  refine LW.callR (As := [.int (xs (i + 1)), .int (xs (i + 2))]) cL_55 h7.1 rfl rfl ⟨by decide, by decide⟩ (Nat.le_of_ble_eq_true rfl) rfl dL_law_384 hq ?_
  rintro _ N' ⟨r', rfl, hr, hI'⟩
  subst hr
  exact LW.icmp_eq (tgt := 842) dL_law_387 rfl (fun _ => hk N N' hI') (fun hne => absurd rfl hne)
theorem cL_56 : Cv RL 56 mX6_undo 0 := ⟨(wsA_in (tb3 (List.mem_of_getElem? (i := 5) rfl)) rfl), (wsA_in (tb3 (List.mem_of_getElem? (i := 6) rfl)) rfl), (wsA_in (tb3 (List.mem_of_getElem? (i := 7) rfl)) rfl), (wsA_in (tb1 (List.mem_of_getElem? (i := 1) rfl)) rfl), (wsA_in (tb3 (List.mem_of_getElem? (i := 8) rfl)) rfl), by decide +kernel⟩
theorem cL_59 : Cv RL 59 mX7_undo 0 := ⟨(wsA_in (tb4 (List.mem_of_getElem? (i := 215) rfl)) rfl), (wsA_in (tb4 (List.mem_of_getElem? (i := 216) rfl)) rfl), (wsA_in (tb4 (List.mem_of_getElem? (i := 217) rfl)) rfl), (wsA_in (tb1 (List.mem_of_getElem? (i := 8) rfl)) rfl), (wsA_in (tb4 (List.mem_of_getElem? (i := 218) rfl)) rfl), by decide +kernel⟩
theorem lc_undo {i : Nat} (hL : L ≤ 320) (hi : i + 5 ≤ L) (hC : LayC T x) (h7 : isX7 (Tb T y 26) y) (hI : Inv x y M M') (hk : ∀ N N', Inv x y N N' → LW T y b L xs 842 (LL x y b i) [] N N') : LW T y b L xs 392 (LL x y b i) [] M M' := by
  refine LW.aload_n 2 dL_law_392 rfl rfl ?_
  refine LW.callC (As := []) cL_56 hC.1.1 rfl rfl ⟨by decide, by decide⟩ (Nat.le_of_ble_eq_true rfl) rfl dL_law_393 (e_undo hC h7 hI) ?_
  rintro _ N ⟨r, rfl, hq⟩
  refine LW.aload_n 1 dL_law_396 rfl rfl ?_
  refine LW.callR (As := []) cL_59 h7.1 rfl rfl ⟨by decide, by decide⟩ (Nat.le_of_ble_eq_true rfl) rfl dL_law_397 hq ?_
  rintro _ N' ⟨r', rfl, hr, hI'⟩
  subst hr
  exact LW.icmp_eq (tgt := 842) dL_law_400 rfl (fun _ => hk N N' hI') (fun hne => absurd rfl hne)
theorem cL_60 : Cv RL 60 mX6_behind 3 := ⟨(wsA_in (tb3 (List.mem_of_getElem? (i := 13) rfl)) rfl), (wsA_in (tb3 (List.mem_of_getElem? (i := 14) rfl)) rfl), (wsA_in (tb3 (List.mem_of_getElem? (i := 15) rfl)) rfl), (wsA_in (tb1 (List.mem_of_getElem? (i := 1) rfl)) rfl), (wsA_in (tb3 (List.mem_of_getElem? (i := 16) rfl)) rfl), by decide +kernel⟩
theorem cL_64 : Cv RL 64 mX7_behind 3 := ⟨(wsA_in (tb4 (List.mem_of_getElem? (i := 219) rfl)) rfl), (wsA_in (tb4 (List.mem_of_getElem? (i := 220) rfl)) rfl), (wsA_in (tb4 (List.mem_of_getElem? (i := 221) rfl)) rfl), (wsA_in (tb1 (List.mem_of_getElem? (i := 8) rfl)) rfl), (wsA_in (tb4 (List.mem_of_getElem? (i := 222) rfl)) rfl), by decide +kernel⟩
theorem lc_behind {i : Nat} (hL : L ≤ 320) (hi : i + 5 ≤ L) (hC : LayC T x) (h7 : isX7 (Tb T y 26) y) (hI : Inv x y M M') (hk : ∀ N N', Inv x y N N' → LW T y b L xs 842 (LL x y b i) [] N N') : LW T y b L xs 405 (LL x y b i) [] M M' := by
  refine LW.aload_n 2 dL_law_405 rfl rfl ?_
  refine LW.arg (j := 1) dL_law_406 dL_law_407 dL_law_408 dL_law_409 dL_law_410 rfl hL (by omega) ?_
  refine LW.arg (j := 2) dL_law_411 dL_law_412 dL_law_413 dL_law_414 dL_law_415 rfl hL (by omega) ?_
  refine LW.arg (j := 3) dL_law_416 dL_law_417 dL_law_418 dL_law_419 dL_law_420 rfl hL (by omega) ?_
  refine LW.callC (As := [.int (xs (i + 1)), .int (xs (i + 2)), .int (xs (i + 3))]) cL_60 hC.1.1 rfl rfl ⟨by decide, by decide⟩ (Nat.le_of_ble_eq_true rfl) rfl dL_law_421 (e_behind hC h7 hI) ?_
  rintro _ N ⟨r, rfl, hq⟩
  refine LW.aload_n 1 dL_law_424 rfl rfl ?_
  refine LW.arg (j := 1) dL_law_425 dL_law_426 dL_law_427 dL_law_428 dL_law_429 rfl hL (by omega) ?_
  refine LW.arg (j := 2) dL_law_430 dL_law_431 dL_law_432 dL_law_433 dL_law_434 rfl hL (by omega) ?_
  refine LW.arg (j := 3) dL_law_435 dL_law_436 dL_law_437 dL_law_438 dL_law_439 rfl hL (by omega) ?_
  refine LW.callR (As := [.int (xs (i + 1)), .int (xs (i + 2)), .int (xs (i + 3))]) cL_64 h7.1 rfl rfl ⟨by decide, by decide⟩ (Nat.le_of_ble_eq_true rfl) rfl dL_law_440 hq ?_
  rintro _ N' ⟨r', rfl, hr, hI'⟩
  subst hr
  exact LW.icmp_eq (tgt := 842) dL_law_443 rfl (fun _ => hk N N' hI') (fun hne => absurd rfl hne)
theorem cL_65 : Cv RL 65 mX6_caught 1 := ⟨(wsA_in (tb3 (List.mem_of_getElem? (i := 18) rfl)) rfl), (wsA_in (tb3 (List.mem_of_getElem? (i := 19) rfl)) rfl), (wsA_in (tb3 (List.mem_of_getElem? (i := 20) rfl)) rfl), (wsA_in (tb1 (List.mem_of_getElem? (i := 1) rfl)) rfl), (wsA_in (tb3 (List.mem_of_getElem? (i := 21) rfl)) rfl), by decide +kernel⟩
theorem cL_68 : Cv RL 68 mX7_caught 1 := ⟨(wsA_in (tb4 (List.mem_of_getElem? (i := 227) rfl)) rfl), (wsA_in (tb4 (List.mem_of_getElem? (i := 228) rfl)) rfl), (wsA_in (tb4 (List.mem_of_getElem? (i := 229) rfl)) rfl), (wsA_in (tb1 (List.mem_of_getElem? (i := 8) rfl)) rfl), (wsA_in (tb4 (List.mem_of_getElem? (i := 230) rfl)) rfl), by decide +kernel⟩
theorem lc_caught {i : Nat} (hL : L ≤ 320) (hi : i + 5 ≤ L) (hC : LayC T x) (h7 : isX7 (Tb T y 26) y) (hI : Inv x y M M') (hk : ∀ N N', Inv x y N N' → LW T y b L xs 842 (LL x y b i) [] N N') : LW T y b L xs 448 (LL x y b i) [] M M' := by
  refine LW.aload_n 2 dL_law_448 rfl rfl ?_
  refine LW.arg (j := 1) dL_law_449 dL_law_450 dL_law_451 dL_law_452 dL_law_453 rfl hL (by omega) ?_
  refine LW.callC (As := [.int (xs (i + 1))]) cL_65 hC.1.1 rfl rfl ⟨by decide, by decide⟩ (Nat.le_of_ble_eq_true rfl) rfl dL_law_454 (e_caught hC h7 hI) ?_
  rintro _ N ⟨r, rfl, hq⟩
  refine LW.aload_n 1 dL_law_457 rfl rfl ?_
  refine LW.arg (j := 1) dL_law_458 dL_law_459 dL_law_460 dL_law_461 dL_law_462 rfl hL (by omega) ?_
  refine LW.callR (As := [.int (xs (i + 1))]) cL_68 h7.1 rfl rfl ⟨by decide, by decide⟩ (Nat.le_of_ble_eq_true rfl) rfl dL_law_463 hq ?_
  rintro _ N' ⟨r', rfl, hr, hI'⟩
  subst hr
  exact LW.icmp_eq (tgt := 842) dL_law_466 rfl (fun _ => hk N N' hI') (fun hne => absurd rfl hne)
theorem cL_69 : Cv RL 69 mX6_waits 1 := ⟨(wsA_in (tb3 (List.mem_of_getElem? (i := 25) rfl)) rfl), (wsA_in (tb3 (List.mem_of_getElem? (i := 26) rfl)) rfl), (wsA_in (tb3 (List.mem_of_getElem? (i := 27) rfl)) rfl), (wsA_in (tb1 (List.mem_of_getElem? (i := 1) rfl)) rfl), (wsA_in (tb3 (List.mem_of_getElem? (i := 28) rfl)) rfl), by decide +kernel⟩
theorem cL_72 : Cv RL 72 mX7_waits 1 := ⟨(wsA_in (tb4 (List.mem_of_getElem? (i := 231) rfl)) rfl), (wsA_in (tb4 (List.mem_of_getElem? (i := 232) rfl)) rfl), (wsA_in (tb4 (List.mem_of_getElem? (i := 233) rfl)) rfl), (wsA_in (tb1 (List.mem_of_getElem? (i := 8) rfl)) rfl), (wsA_in (tb4 (List.mem_of_getElem? (i := 234) rfl)) rfl), by decide +kernel⟩
theorem lc_waits {i : Nat} (hL : L ≤ 320) (hi : i + 5 ≤ L) (hC : LayC T x) (h7 : isX7 (Tb T y 26) y) (hI : Inv x y M M') (hk : ∀ N N', Inv x y N N' → LW T y b L xs 842 (LL x y b i) [] N N') : LW T y b L xs 471 (LL x y b i) [] M M' := by
  refine LW.aload_n 2 dL_law_471 rfl rfl ?_
  refine LW.arg (j := 1) dL_law_472 dL_law_473 dL_law_474 dL_law_475 dL_law_476 rfl hL (by omega) ?_
  refine LW.callC (As := [.int (xs (i + 1))]) cL_69 hC.1.1 rfl rfl ⟨by decide, by decide⟩ (Nat.le_of_ble_eq_true rfl) rfl dL_law_477 (e_waits hC h7 hI) ?_
  rintro _ N ⟨r, rfl, hq⟩
  refine LW.aload_n 1 dL_law_480 rfl rfl ?_
  refine LW.arg (j := 1) dL_law_481 dL_law_482 dL_law_483 dL_law_484 dL_law_485 rfl hL (by omega) ?_
  refine LW.callR (As := [.int (xs (i + 1))]) cL_72 h7.1 rfl rfl ⟨by decide, by decide⟩ (Nat.le_of_ble_eq_true rfl) rfl dL_law_486 hq ?_
  rintro _ N' ⟨r', rfl, hr, hI'⟩
  subst hr
  exact LW.icmp_eq (tgt := 842) dL_law_489 rfl (fun _ => hk N N' hI') (fun hne => absurd rfl hne)
theorem cL_73 : Cv RL 73 mX6_stands 1 := ⟨(wsA_in (tb3 (List.mem_of_getElem? (i := 29) rfl)) rfl), (wsA_in (tb3 (List.mem_of_getElem? (i := 30) rfl)) rfl), (wsA_in (tb3 (List.mem_of_getElem? (i := 31) rfl)) rfl), (wsA_in (tb1 (List.mem_of_getElem? (i := 1) rfl)) rfl), (wsA_in (tb3 (List.mem_of_getElem? (i := 32) rfl)) rfl), by decide +kernel⟩
theorem cL_76 : Cv RL 76 mX7_stands 1 := ⟨(wsA_in (tb4 (List.mem_of_getElem? (i := 235) rfl)) rfl), (wsA_in (tb4 (List.mem_of_getElem? (i := 236) rfl)) rfl), (wsA_in (tb4 (List.mem_of_getElem? (i := 237) rfl)) rfl), (wsA_in (tb1 (List.mem_of_getElem? (i := 8) rfl)) rfl), (wsA_in (tb4 (List.mem_of_getElem? (i := 238) rfl)) rfl), by decide +kernel⟩
theorem lc_stands {i : Nat} (hL : L ≤ 320) (hi : i + 5 ≤ L) (hC : LayC T x) (h7 : isX7 (Tb T y 26) y) (hI : Inv x y M M') (hk : ∀ N N', Inv x y N N' → LW T y b L xs 842 (LL x y b i) [] N N') : LW T y b L xs 494 (LL x y b i) [] M M' := by
  refine LW.aload_n 2 dL_law_494 rfl rfl ?_
  refine LW.arg (j := 1) dL_law_495 dL_law_496 dL_law_497 dL_law_498 dL_law_499 rfl hL (by omega) ?_
  refine LW.callC (As := [.int (xs (i + 1))]) cL_73 hC.1.1 rfl rfl ⟨by decide, by decide⟩ (Nat.le_of_ble_eq_true rfl) rfl dL_law_500 (e_stands hC h7 hI) ?_
  rintro _ N ⟨r, rfl, hq⟩
  refine LW.aload_n 1 dL_law_503 rfl rfl ?_
  refine LW.arg (j := 1) dL_law_504 dL_law_505 dL_law_506 dL_law_507 dL_law_508 rfl hL (by omega) ?_
  refine LW.callR (As := [.int (xs (i + 1))]) cL_76 h7.1 rfl rfl ⟨by decide, by decide⟩ (Nat.le_of_ble_eq_true rfl) rfl dL_law_509 hq ?_
  rintro _ N' ⟨r', rfl, hr, hI'⟩
  subst hr
  exact LW.icmp_eq (tgt := 842) dL_law_512 rfl (fun _ => hk N N' hI') (fun hne => absurd rfl hne)
theorem cL_77 : Cv RL 77 mX6_starts 1 := ⟨(wsA_in (tb3 (List.mem_of_getElem? (i := 47) rfl)) rfl), (wsA_in (tb3 (List.mem_of_getElem? (i := 48) rfl)) rfl), (wsA_in (tb3 (List.mem_of_getElem? (i := 49) rfl)) rfl), (wsA_in (tb1 (List.mem_of_getElem? (i := 1) rfl)) rfl), (wsA_in (tb3 (List.mem_of_getElem? (i := 50) rfl)) rfl), by decide +kernel⟩
theorem cL_80 : Cv RL 80 mX7_starts 1 := ⟨(wsA_in (tb4 (List.mem_of_getElem? (i := 239) rfl)) rfl), (wsA_in (tb5 (List.mem_of_getElem? (i := 0) rfl)) rfl), (wsA_in (tb5 (List.mem_of_getElem? (i := 1) rfl)) rfl), (wsA_in (tb1 (List.mem_of_getElem? (i := 8) rfl)) rfl), (wsA_in (tb5 (List.mem_of_getElem? (i := 2) rfl)) rfl), by decide +kernel⟩
theorem lc_starts {i : Nat} (hL : L ≤ 320) (hi : i + 5 ≤ L) (hC : LayC T x) (h7 : isX7 (Tb T y 26) y) (hI : Inv x y M M') (hk : ∀ N N', Inv x y N N' → LW T y b L xs 842 (LL x y b i) [] N N') : LW T y b L xs 517 (LL x y b i) [] M M' := by
  refine LW.aload_n 2 dL_law_517 rfl rfl ?_
  refine LW.arg (j := 1) dL_law_518 dL_law_519 dL_law_520 dL_law_521 dL_law_522 rfl hL (by omega) ?_
  refine LW.callC (As := [.int (xs (i + 1))]) cL_77 hC.1.1 rfl rfl ⟨by decide, by decide⟩ (Nat.le_of_ble_eq_true rfl) rfl dL_law_523 (e_starts hC h7 hI) ?_
  rintro _ N ⟨r, rfl, hq⟩
  refine LW.aload_n 1 dL_law_526 rfl rfl ?_
  refine LW.arg (j := 1) dL_law_527 dL_law_528 dL_law_529 dL_law_530 dL_law_531 rfl hL (by omega) ?_
  refine LW.callR (As := [.int (xs (i + 1))]) cL_80 h7.1 rfl rfl ⟨by decide, by decide⟩ (Nat.le_of_ble_eq_true rfl) rfl dL_law_532 hq ?_
  rintro _ N' ⟨r', rfl, hr, hI'⟩
  subst hr
  exact LW.icmp_eq (tgt := 842) dL_law_535 rfl (fun _ => hk N N' hI') (fun hne => absurd rfl hne)
theorem cL_81 : Cv RL 81 mX6_bars 0 := ⟨(wsA_in (tb3 (List.mem_of_getElem? (i := 77) rfl)) rfl), (wsA_in (tb3 (List.mem_of_getElem? (i := 78) rfl)) rfl), (wsA_in (tb3 (List.mem_of_getElem? (i := 79) rfl)) rfl), (wsA_in (tb1 (List.mem_of_getElem? (i := 1) rfl)) rfl), (wsA_in (tb3 (List.mem_of_getElem? (i := 80) rfl)) rfl), by decide +kernel⟩
theorem cL_84 : Cv RL 84 mX7_bars 0 := ⟨(wsA_in (tb5 (List.mem_of_getElem? (i := 15) rfl)) rfl), (wsA_in (tb5 (List.mem_of_getElem? (i := 16) rfl)) rfl), (wsA_in (tb5 (List.mem_of_getElem? (i := 17) rfl)) rfl), (wsA_in (tb1 (List.mem_of_getElem? (i := 8) rfl)) rfl), (wsA_in (tb5 (List.mem_of_getElem? (i := 18) rfl)) rfl), by decide +kernel⟩
theorem lc_bars {i : Nat} (hL : L ≤ 320) (hi : i + 5 ≤ L) (hC : LayC T x) (h7 : isX7 (Tb T y 26) y) (hI : Inv x y M M') (hk : ∀ N N', Inv x y N N' → LW T y b L xs 842 (LL x y b i) [] N N') : LW T y b L xs 540 (LL x y b i) [] M M' := by
  refine LW.aload_n 2 dL_law_540 rfl rfl ?_
  refine LW.callC (As := []) cL_81 hC.1.1 rfl rfl ⟨by decide, by decide⟩ (Nat.le_of_ble_eq_true rfl) rfl dL_law_541 (e_bars hC h7 hI) ?_
  rintro _ N ⟨r, rfl, hq⟩
  refine LW.aload_n 1 dL_law_544 rfl rfl ?_
  refine LW.callR (As := []) cL_84 h7.1 rfl rfl ⟨by decide, by decide⟩ (Nat.le_of_ble_eq_true rfl) rfl dL_law_545 hq ?_
  rintro _ N' ⟨r', rfl, hr, hI'⟩
  subst hr
  exact LW.icmp_eq (tgt := 842) dL_law_548 rfl (fun _ => hk N N' hI') (fun hne => absurd rfl hne)
theorem cL_85 : Cv RL 85 mX6_pieces 2 := ⟨(wsA_in (tb3 (List.mem_of_getElem? (i := 81) rfl)) rfl), (wsA_in (tb3 (List.mem_of_getElem? (i := 82) rfl)) rfl), (wsA_in (tb3 (List.mem_of_getElem? (i := 83) rfl)) rfl), (wsA_in (tb1 (List.mem_of_getElem? (i := 1) rfl)) rfl), (wsA_in (tb3 (List.mem_of_getElem? (i := 84) rfl)) rfl), by decide +kernel⟩
theorem cL_88 : Cv RL 88 mX7_pieces 2 := ⟨(wsA_in (tb5 (List.mem_of_getElem? (i := 19) rfl)) rfl), (wsA_in (tb5 (List.mem_of_getElem? (i := 20) rfl)) rfl), (wsA_in (tb5 (List.mem_of_getElem? (i := 21) rfl)) rfl), (wsA_in (tb1 (List.mem_of_getElem? (i := 8) rfl)) rfl), (wsA_in (tb5 (List.mem_of_getElem? (i := 22) rfl)) rfl), by decide +kernel⟩
theorem lc_pieces {i : Nat} (hL : L ≤ 320) (hi : i + 5 ≤ L) (hC : LayC T x) (h7 : isX7 (Tb T y 26) y) (hI : Inv x y M M') (hk : ∀ N N', Inv x y N N' → LW T y b L xs 842 (LL x y b i) [] N N') : LW T y b L xs 553 (LL x y b i) [] M M' := by
  refine LW.aload_n 2 dL_law_553 rfl rfl ?_
  refine LW.arg (j := 1) dL_law_554 dL_law_555 dL_law_556 dL_law_557 dL_law_558 rfl hL (by omega) ?_
  refine LW.arg (j := 2) dL_law_559 dL_law_560 dL_law_561 dL_law_562 dL_law_563 rfl hL (by omega) ?_
  refine LW.callC (As := [.int (xs (i + 1)), .int (xs (i + 2))]) cL_85 hC.1.1 rfl rfl ⟨by decide, by decide⟩ (Nat.le_of_ble_eq_true rfl) rfl dL_law_564 (e_pieces hC h7 hI) ?_
  rintro _ N ⟨r, rfl, hq⟩
  refine LW.aload_n 1 dL_law_567 rfl rfl ?_
  refine LW.arg (j := 1) dL_law_568 dL_law_569 dL_law_570 dL_law_571 dL_law_572 rfl hL (by omega) ?_
  refine LW.arg (j := 2) dL_law_573 dL_law_574 dL_law_575 dL_law_576 dL_law_577 rfl hL (by omega) ?_
  refine LW.callR (As := [.int (xs (i + 1)), .int (xs (i + 2))]) cL_88 h7.1 rfl rfl ⟨by decide, by decide⟩ (Nat.le_of_ble_eq_true rfl) rfl dL_law_578 hq ?_
  rintro _ N' ⟨r', rfl, hr, hI'⟩
  subst hr
  exact LW.icmp_eq (tgt := 842) dL_law_581 rfl (fun _ => hk N N' hI') (fun hne => absurd rfl hne)
theorem cL_89 : Cv RL 89 mX6_met 2 := ⟨(wsA_in (tb3 (List.mem_of_getElem? (i := 90) rfl)) rfl), (wsA_in (tb3 (List.mem_of_getElem? (i := 91) rfl)) rfl), (wsA_in (tb3 (List.mem_of_getElem? (i := 92) rfl)) rfl), (wsA_in (tb1 (List.mem_of_getElem? (i := 1) rfl)) rfl), (wsA_in (tb3 (List.mem_of_getElem? (i := 93) rfl)) rfl), by decide +kernel⟩
theorem cL_92 : Cv RL 92 mX7_met 2 := ⟨(wsA_in (tb5 (List.mem_of_getElem? (i := 23) rfl)) rfl), (wsA_in (tb5 (List.mem_of_getElem? (i := 24) rfl)) rfl), (wsA_in (tb5 (List.mem_of_getElem? (i := 25) rfl)) rfl), (wsA_in (tb1 (List.mem_of_getElem? (i := 8) rfl)) rfl), (wsA_in (tb5 (List.mem_of_getElem? (i := 26) rfl)) rfl), by decide +kernel⟩
theorem lc_met {i : Nat} (hL : L ≤ 320) (hi : i + 5 ≤ L) (hC : LayC T x) (h7 : isX7 (Tb T y 26) y) (hI : Inv x y M M') (hk : ∀ N N', Inv x y N N' → LW T y b L xs 842 (LL x y b i) [] N N') : LW T y b L xs 586 (LL x y b i) [] M M' := by
  refine LW.aload_n 2 dL_law_586 rfl rfl ?_
  refine LW.arg (j := 1) dL_law_587 dL_law_588 dL_law_589 dL_law_590 dL_law_591 rfl hL (by omega) ?_
  refine LW.arg (j := 2) dL_law_592 dL_law_593 dL_law_594 dL_law_595 dL_law_596 rfl hL (by omega) ?_
  refine LW.callC (As := [.int (xs (i + 1)), .int (xs (i + 2))]) cL_89 hC.1.1 rfl rfl ⟨by decide, by decide⟩ (Nat.le_of_ble_eq_true rfl) rfl dL_law_597 (e_met hC h7 hI) ?_
  rintro _ N ⟨r, rfl, hq⟩
  refine LW.aload_n 1 dL_law_600 rfl rfl ?_
  refine LW.arg (j := 1) dL_law_601 dL_law_602 dL_law_603 dL_law_604 dL_law_605 rfl hL (by omega) ?_
  refine LW.arg (j := 2) dL_law_606 dL_law_607 dL_law_608 dL_law_609 dL_law_610 rfl hL (by omega) ?_
  refine LW.callR (As := [.int (xs (i + 1)), .int (xs (i + 2))]) cL_92 h7.1 rfl rfl ⟨by decide, by decide⟩ (Nat.le_of_ble_eq_true rfl) rfl dL_law_611 hq ?_
  rintro _ N' ⟨r', rfl, hr, hI'⟩
  subst hr
  exact LW.icmp_eq (tgt := 842) dL_law_614 rfl (fun _ => hk N N' hI') (fun hne => absurd rfl hne)
theorem cL_93 : Cv RL 93 mX6_odds 4 := ⟨(wsA_in (tb3 (List.mem_of_getElem? (i := 98) rfl)) rfl), (wsA_in (tb3 (List.mem_of_getElem? (i := 99) rfl)) rfl), (wsA_in (tb3 (List.mem_of_getElem? (i := 100) rfl)) rfl), (wsA_in (tb1 (List.mem_of_getElem? (i := 1) rfl)) rfl), (wsA_in (tb3 (List.mem_of_getElem? (i := 101) rfl)) rfl), by decide +kernel⟩
theorem cL_97 : Cv RL 97 mX7_odds 4 := ⟨(wsA_in (tb5 (List.mem_of_getElem? (i := 27) rfl)) rfl), (wsA_in (tb5 (List.mem_of_getElem? (i := 28) rfl)) rfl), (wsA_in (tb5 (List.mem_of_getElem? (i := 29) rfl)) rfl), (wsA_in (tb1 (List.mem_of_getElem? (i := 8) rfl)) rfl), (wsA_in (tb5 (List.mem_of_getElem? (i := 30) rfl)) rfl), by decide +kernel⟩
theorem lc_odds {i : Nat} (hL : L ≤ 320) (hi : i + 5 ≤ L) (hC : LayC T x) (h7 : isX7 (Tb T y 26) y) (hI : Inv x y M M') (hk : ∀ N N', Inv x y N N' → LW T y b L xs 842 (LL x y b i) [] N N') : LW T y b L xs 619 (LL x y b i) [] M M' := by
  refine LW.aload_n 2 dL_law_619 rfl rfl ?_
  refine LW.arg (j := 1) dL_law_620 dL_law_621 dL_law_622 dL_law_623 dL_law_624 rfl hL (by omega) ?_
  refine LW.arg (j := 2) dL_law_625 dL_law_626 dL_law_627 dL_law_628 dL_law_629 rfl hL (by omega) ?_
  refine LW.arg (j := 3) dL_law_630 dL_law_631 dL_law_632 dL_law_633 dL_law_634 rfl hL (by omega) ?_
  refine LW.arg (j := 4) dL_law_635 dL_law_636 dL_law_637 dL_law_638 dL_law_639 rfl hL (by omega) ?_
  refine LW.callC (As := [.int (xs (i + 1)), .int (xs (i + 2)), .int (xs (i + 3)), .int (xs (i + 4))]) cL_93 hC.1.1 rfl rfl ⟨by decide, by decide⟩ (Nat.le_of_ble_eq_true rfl) rfl dL_law_640 (e_odds hC h7 hI) ?_
  rintro _ N ⟨r, rfl, hq⟩
  refine LW.aload_n 1 dL_law_643 rfl rfl ?_
  refine LW.arg (j := 1) dL_law_644 dL_law_645 dL_law_646 dL_law_647 dL_law_648 rfl hL (by omega) ?_
  refine LW.arg (j := 2) dL_law_649 dL_law_650 dL_law_651 dL_law_652 dL_law_653 rfl hL (by omega) ?_
  refine LW.arg (j := 3) dL_law_654 dL_law_655 dL_law_656 dL_law_657 dL_law_658 rfl hL (by omega) ?_
  refine LW.arg (j := 4) dL_law_659 dL_law_660 dL_law_661 dL_law_662 dL_law_663 rfl hL (by omega) ?_
  refine LW.callR (As := [.int (xs (i + 1)), .int (xs (i + 2)), .int (xs (i + 3)), .int (xs (i + 4))]) cL_97 h7.1 rfl rfl ⟨by decide, by decide⟩ (Nat.le_of_ble_eq_true rfl) rfl dL_law_664 hq ?_
  rintro _ N' ⟨r', rfl, hr, hI'⟩
  subst hr
  refine LW.lcmp dL_law_667 ?_
  exact LW.if_eq (tgt := 842) dL_law_668 rfl (fun _ => hk N N' hI') (fun hne => absurd (by simp [lg_cmp]) hne)
theorem cL_98 : Cv RL 98 mX6_keepAhead 4 := ⟨(wsA_in (tb3 (List.mem_of_getElem? (i := 134) rfl)) rfl), (wsA_in (tb3 (List.mem_of_getElem? (i := 135) rfl)) rfl), (wsA_in (tb3 (List.mem_of_getElem? (i := 136) rfl)) rfl), (wsA_in (tb1 (List.mem_of_getElem? (i := 1) rfl)) rfl), (wsA_in (tb3 (List.mem_of_getElem? (i := 137) rfl)) rfl), by decide +kernel⟩
theorem cL_102 : Cv RL 102 mX7_keepAhead 4 := ⟨(wsA_in (tb5 (List.mem_of_getElem? (i := 42) rfl)) rfl), (wsA_in (tb5 (List.mem_of_getElem? (i := 43) rfl)) rfl), (wsA_in (tb5 (List.mem_of_getElem? (i := 44) rfl)) rfl), (wsA_in (tb1 (List.mem_of_getElem? (i := 8) rfl)) rfl), (wsA_in (tb5 (List.mem_of_getElem? (i := 45) rfl)) rfl), by decide +kernel⟩
theorem lc_keepAhead {i : Nat} (hL : L ≤ 320) (hi : i + 5 ≤ L) (hC : LayC T x) (h7 : isX7 (Tb T y 26) y) (hI : Inv x y M M') (hk : ∀ N N', Inv x y N N' → LW T y b L xs 842 (LL x y b i) [] N N') : LW T y b L xs 673 (LL x y b i) [] M M' := by
  refine LW.aload_n 2 dL_law_673 rfl rfl ?_
  refine LW.arg (j := 1) dL_law_674 dL_law_675 dL_law_676 dL_law_677 dL_law_678 rfl hL (by omega) ?_
  refine LW.arg (j := 2) dL_law_679 dL_law_680 dL_law_681 dL_law_682 dL_law_683 rfl hL (by omega) ?_
  refine LW.arg (j := 3) dL_law_684 dL_law_685 dL_law_686 dL_law_687 dL_law_688 rfl hL (by omega) ?_
  refine LW.arg (j := 4) dL_law_689 dL_law_690 dL_law_691 dL_law_692 dL_law_693 rfl hL (by omega) ?_
  refine LW.callC (As := [.int (xs (i + 1)), .int (xs (i + 2)), .int (xs (i + 3)), .int (xs (i + 4))]) cL_98 hC.1.1 rfl rfl ⟨by decide, by decide⟩ (Nat.le_of_ble_eq_true rfl) rfl dL_law_694 (e_keepAhead hC h7 hI) ?_
  rintro _ N ⟨r, rfl, hq⟩
  refine LW.aload_n 1 dL_law_697 rfl rfl ?_
  refine LW.arg (j := 1) dL_law_698 dL_law_699 dL_law_700 dL_law_701 dL_law_702 rfl hL (by omega) ?_
  refine LW.arg (j := 2) dL_law_703 dL_law_704 dL_law_705 dL_law_706 dL_law_707 rfl hL (by omega) ?_
  refine LW.arg (j := 3) dL_law_708 dL_law_709 dL_law_710 dL_law_711 dL_law_712 rfl hL (by omega) ?_
  refine LW.arg (j := 4) dL_law_713 dL_law_714 dL_law_715 dL_law_716 dL_law_717 rfl hL (by omega) ?_
  refine LW.callR (As := [.int (xs (i + 1)), .int (xs (i + 2)), .int (xs (i + 3)), .int (xs (i + 4))]) cL_102 h7.1 rfl rfl ⟨by decide, by decide⟩ (Nat.le_of_ble_eq_true rfl) rfl dL_law_718 hq ?_
  rintro _ N' ⟨r', rfl, hr, hI'⟩
  subst hr
  exact LW.icmp_eq (tgt := 842) dL_law_721 rfl (fun _ => hk N N' hI') (fun hne => absurd rfl hne)
theorem cL_103 : Cv RL 103 mX6_mark 2 := ⟨(wsA_in (tb3 (List.mem_of_getElem? (i := 138) rfl)) rfl), (wsA_in (tb3 (List.mem_of_getElem? (i := 139) rfl)) rfl), (wsA_in (tb3 (List.mem_of_getElem? (i := 140) rfl)) rfl), (wsA_in (tb1 (List.mem_of_getElem? (i := 1) rfl)) rfl), (wsA_in (tb3 (List.mem_of_getElem? (i := 141) rfl)) rfl), by decide +kernel⟩
theorem cL_106 : Cv RL 106 mX7_mark 2 := ⟨(wsA_in (tb5 (List.mem_of_getElem? (i := 46) rfl)) rfl), (wsA_in (tb5 (List.mem_of_getElem? (i := 47) rfl)) rfl), (wsA_in (tb5 (List.mem_of_getElem? (i := 48) rfl)) rfl), (wsA_in (tb1 (List.mem_of_getElem? (i := 8) rfl)) rfl), (wsA_in (tb5 (List.mem_of_getElem? (i := 49) rfl)) rfl), by decide +kernel⟩
theorem lc_mark {i : Nat} (hL : L ≤ 320) (hi : i + 5 ≤ L) (hC : LayC T x) (h7 : isX7 (Tb T y 26) y) (hI : Inv x y M M') (hk : ∀ N N', Inv x y N N' → LW T y b L xs 842 (LL x y b i) [] N N') : LW T y b L xs 726 (LL x y b i) [] M M' := by
  refine LW.aload_n 2 dL_law_726 rfl rfl ?_
  refine LW.arg (j := 1) dL_law_727 dL_law_728 dL_law_729 dL_law_730 dL_law_731 rfl hL (by omega) ?_
  refine LW.arg (j := 2) dL_law_732 dL_law_733 dL_law_734 dL_law_735 dL_law_736 rfl hL (by omega) ?_
  refine LW.callC (As := [.int (xs (i + 1)), .int (xs (i + 2))]) cL_103 hC.1.1 rfl rfl ⟨by decide, by decide⟩ (Nat.le_of_ble_eq_true rfl) rfl dL_law_737 (e_mark hC h7 hI) ?_
  rintro _ N ⟨r, rfl, hq⟩
  refine LW.aload_n 1 dL_law_740 rfl rfl ?_
  refine LW.arg (j := 1) dL_law_741 dL_law_742 dL_law_743 dL_law_744 dL_law_745 rfl hL (by omega) ?_
  refine LW.arg (j := 2) dL_law_746 dL_law_747 dL_law_748 dL_law_749 dL_law_750 rfl hL (by omega) ?_
  refine LW.callR (As := [.int (xs (i + 1)), .int (xs (i + 2))]) cL_106 h7.1 rfl rfl ⟨by decide, by decide⟩ (Nat.le_of_ble_eq_true rfl) rfl dL_law_751 hq ?_
  rintro _ N' ⟨r', rfl, hr, hI'⟩
  subst hr
  exact LW.icmp_eq (tgt := 842) dL_law_754 rfl (fun _ => hk N N' hI') (fun hne => absurd rfl hne)
theorem cL_107 : Cv RL 107 mX6_keep 1 := ⟨(wsA_in (tb3 (List.mem_of_getElem? (i := 170) rfl)) rfl), (wsA_in (tb3 (List.mem_of_getElem? (i := 171) rfl)) rfl), (wsA_in (tb3 (List.mem_of_getElem? (i := 172) rfl)) rfl), (wsA_in (tb1 (List.mem_of_getElem? (i := 1) rfl)) rfl), (wsA_in (tb3 (List.mem_of_getElem? (i := 173) rfl)) rfl), by decide +kernel⟩
theorem cL_110 : Cv RL 110 mX7_keep 1 := ⟨(wsA_in (tb5 (List.mem_of_getElem? (i := 55) rfl)) rfl), (wsA_in (tb5 (List.mem_of_getElem? (i := 56) rfl)) rfl), (wsA_in (tb5 (List.mem_of_getElem? (i := 57) rfl)) rfl), (wsA_in (tb1 (List.mem_of_getElem? (i := 8) rfl)) rfl), (wsA_in (tb5 (List.mem_of_getElem? (i := 58) rfl)) rfl), by decide +kernel⟩
theorem lc_keep {i : Nat} (hL : L ≤ 320) (hi : i + 5 ≤ L) (hC : LayC T x) (h7 : isX7 (Tb T y 26) y) (hI : Inv x y M M') (hk : ∀ N N', Inv x y N N' → LW T y b L xs 842 (LL x y b i) [] N N') : LW T y b L xs 759 (LL x y b i) [] M M' := by
  refine LW.aload_n 2 dL_law_759 rfl rfl ?_
  refine LW.arg (j := 1) dL_law_760 dL_law_761 dL_law_762 dL_law_763 dL_law_764 rfl hL (by omega) ?_
  refine LW.callC (As := [.int (xs (i + 1))]) cL_107 hC.1.1 rfl rfl ⟨by decide, by decide⟩ (Nat.le_of_ble_eq_true rfl) rfl dL_law_765 (e_keep hC h7 hI) ?_
  rintro _ N ⟨r, rfl, hq⟩
  refine LW.aload_n 1 dL_law_768 rfl rfl ?_
  refine LW.arg (j := 1) dL_law_769 dL_law_770 dL_law_771 dL_law_772 dL_law_773 rfl hL (by omega) ?_
  refine LW.callR (As := [.int (xs (i + 1))]) cL_110 h7.1 rfl rfl ⟨by decide, by decide⟩ (Nat.le_of_ble_eq_true rfl) rfl dL_law_774 hq ?_
  rintro _ N' ⟨r', rfl, hr, hI'⟩
  subst hr
  exact LW.icmp_eq (tgt := 842) dL_law_777 rfl (fun _ => hk N N' hI') (fun hne => absurd rfl hne)
theorem cL_111 : Cv RL 111 mX6_back 1 := ⟨(wsA_in (tb3 (List.mem_of_getElem? (i := 178) rfl)) rfl), (wsA_in (tb3 (List.mem_of_getElem? (i := 179) rfl)) rfl), (wsA_in (tb3 (List.mem_of_getElem? (i := 180) rfl)) rfl), (wsA_in (tb1 (List.mem_of_getElem? (i := 1) rfl)) rfl), (wsA_in (tb3 (List.mem_of_getElem? (i := 181) rfl)) rfl), by decide +kernel⟩
theorem cL_114 : Cv RL 114 mX7_back 1 := ⟨(wsA_in (tb5 (List.mem_of_getElem? (i := 63) rfl)) rfl), (wsA_in (tb5 (List.mem_of_getElem? (i := 64) rfl)) rfl), (wsA_in (tb5 (List.mem_of_getElem? (i := 65) rfl)) rfl), (wsA_in (tb1 (List.mem_of_getElem? (i := 8) rfl)) rfl), (wsA_in (tb5 (List.mem_of_getElem? (i := 66) rfl)) rfl), by decide +kernel⟩
theorem lc_back {i : Nat} (hL : L ≤ 320) (hi : i + 5 ≤ L) (hC : LayC T x) (h7 : isX7 (Tb T y 26) y) (hI : Inv x y M M') (hk : ∀ N N', Inv x y N N' → LW T y b L xs 842 (LL x y b i) [] N N') : LW T y b L xs 782 (LL x y b i) [] M M' := by
  refine LW.aload_n 2 dL_law_782 rfl rfl ?_
  refine LW.arg (j := 1) dL_law_783 dL_law_784 dL_law_785 dL_law_786 dL_law_787 rfl hL (by omega) ?_
  refine LW.callC (As := [.int (xs (i + 1))]) cL_111 hC.1.1 rfl rfl ⟨by decide, by decide⟩ (Nat.le_of_ble_eq_true rfl) rfl dL_law_788 (e_back hC h7 hI) ?_
  rintro _ N ⟨r, rfl, hq⟩
  refine LW.aload_n 1 dL_law_791 rfl rfl ?_
  refine LW.arg (j := 1) dL_law_792 dL_law_793 dL_law_794 dL_law_795 dL_law_796 rfl hL (by omega) ?_
  refine LW.callR (As := [.int (xs (i + 1))]) cL_114 h7.1 rfl rfl ⟨by decide, by decide⟩ (Nat.le_of_ble_eq_true rfl) rfl dL_law_797 hq ?_
  rintro _ N' ⟨r', rfl, hr, hI'⟩
  subst hr
  exact LW.icmp_eq (tgt := 842) dL_law_800 rfl (fun _ => hk N N' hI') (fun hne => absurd rfl hne)
theorem cL_115 : Cv RL 115 mX6_count 1 := ⟨(wsA_in (tb3 (List.mem_of_getElem? (i := 182) rfl)) rfl), (wsA_in (tb3 (List.mem_of_getElem? (i := 183) rfl)) rfl), (wsA_in (tb3 (List.mem_of_getElem? (i := 184) rfl)) rfl), (wsA_in (tb1 (List.mem_of_getElem? (i := 1) rfl)) rfl), (wsA_in (tb3 (List.mem_of_getElem? (i := 185) rfl)) rfl), by decide +kernel⟩
theorem cL_118 : Cv RL 118 mX7_count 1 := ⟨(wsA_in (tb5 (List.mem_of_getElem? (i := 67) rfl)) rfl), (wsA_in (tb5 (List.mem_of_getElem? (i := 68) rfl)) rfl), (wsA_in (tb5 (List.mem_of_getElem? (i := 69) rfl)) rfl), (wsA_in (tb1 (List.mem_of_getElem? (i := 8) rfl)) rfl), (wsA_in (tb5 (List.mem_of_getElem? (i := 70) rfl)) rfl), by decide +kernel⟩
theorem lc_count {i : Nat} (hL : L ≤ 320) (hi : i + 5 ≤ L) (hC : LayC T x) (h7 : isX7 (Tb T y 26) y) (hI : Inv x y M M') (hk : ∀ N N', Inv x y N N' → LW T y b L xs 842 (LL x y b i) [] N N') : LW T y b L xs 805 (LL x y b i) [] M M' := by
  refine LW.aload_n 2 dL_law_805 rfl rfl ?_
  refine LW.arg (j := 1) dL_law_806 dL_law_807 dL_law_808 dL_law_809 dL_law_810 rfl hL (by omega) ?_
  refine LW.callC (As := [.int (xs (i + 1))]) cL_115 hC.1.1 rfl rfl ⟨by decide, by decide⟩ (Nat.le_of_ble_eq_true rfl) rfl dL_law_811 (e_count hC h7 hI) ?_
  rintro _ N ⟨r, rfl, hq⟩
  refine LW.aload_n 1 dL_law_814 rfl rfl ?_
  refine LW.arg (j := 1) dL_law_815 dL_law_816 dL_law_817 dL_law_818 dL_law_819 rfl hL (by omega) ?_
  refine LW.callR (As := [.int (xs (i + 1))]) cL_118 h7.1 rfl rfl ⟨by decide, by decide⟩ (Nat.le_of_ble_eq_true rfl) rfl dL_law_820 hq ?_
  rintro _ N' ⟨r', rfl, hr, hI'⟩
  subst hr
  exact LW.icmp_eq (tgt := 842) dL_law_823 rfl (fun _ => hk N N' hI') (fun hne => absurd rfl hne)
theorem cL_119 : Cv RL 119 mX6_trace 0 := ⟨(wsA_in (tb3 (List.mem_of_getElem? (i := 186) rfl)) rfl), (wsA_in (tb3 (List.mem_of_getElem? (i := 187) rfl)) rfl), (wsA_in (tb3 (List.mem_of_getElem? (i := 188) rfl)) rfl), (wsA_in (tb1 (List.mem_of_getElem? (i := 1) rfl)) rfl), (wsA_in (tb3 (List.mem_of_getElem? (i := 189) rfl)) rfl), by decide +kernel⟩
theorem cL_123 : Cv RL 123 mX7_trace 0 := ⟨(wsA_in (tb5 (List.mem_of_getElem? (i := 71) rfl)) rfl), (wsA_in (tb5 (List.mem_of_getElem? (i := 72) rfl)) rfl), (wsA_in (tb5 (List.mem_of_getElem? (i := 73) rfl)) rfl), (wsA_in (tb1 (List.mem_of_getElem? (i := 8) rfl)) rfl), (wsA_in (tb5 (List.mem_of_getElem? (i := 74) rfl)) rfl), by decide +kernel⟩
theorem lc_trace {i : Nat} (hL : L ≤ 320) (hi : i + 5 ≤ L) (hC : LayC T x) (h7 : isX7 (Tb T y 26) y) (hI : Inv x y M M') (hk : ∀ N N', Inv x y N N' → LW T y b L xs 842 (LL x y b i) [] N N') : LW T y b L xs 828 (LL x y b i) [] M M' := by
  refine LW.aload_n 2 dL_law_828 rfl rfl ?_
  refine LW.callC (As := []) cL_119 hC.1.1 rfl rfl ⟨by decide, by decide⟩ (Nat.le_of_ble_eq_true rfl) rfl dL_law_829 (e_trace hC h7 hI) ?_
  rintro _ N ⟨r, rfl, hq⟩
  refine LW.aload_n 1 dL_law_832 rfl rfl ?_
  refine LW.callR (As := []) cL_123 h7.1 rfl rfl ⟨by decide, by decide⟩ (Nat.le_of_ble_eq_true rfl) rfl dL_law_833 hq ?_
  rintro _ N' ⟨r', rfl, hr, hI'⟩
  subst hr
  refine LW.lcmp dL_law_836 ?_
  exact LW.if_eq (tgt := 842) dL_law_837 rfl (fun _ => hk N N' hI') (fun hne => absurd (by simp [lg_cmp]) hne)
end
