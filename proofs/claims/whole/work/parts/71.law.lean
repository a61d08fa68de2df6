/-! the law: its own rows, its cases, its loop -/
def lE (L : pw_Lay) (p : Program) (s : State) (m : MethodId) (meth : Method) (c : Code) (b Ln : Nat) (xs : Nat → Int32) : Prop := lw_At p s m meth c b Ln xs ∧ va_K (pw_G L) pw_cl (pw_tys L) s ∧ pw_N s ∧ ∀ q, pw_A L q → s.heap.size ≤ q
def LW (L : pw_Lay) (p : Program) (e : Env) (s : State) (m : MethodId) (below : List Frame) (meth : Method) (c : Code) (b cs sl pc : Nat) (i : Int32) (st : List Value) (σ : pw_Mem) : Prop := ∀ (H : Heap) (locs : List Loc) (ls : Array Slot), va_P (pw_G L) pw_cl (pw_wl L σ) H → va_D (pw_A L) (pw_wl L σ) → va_S (pw_A L) s.heap H locs → lv_has ls 4 [(0, .ref b), (1, .ref (pw_ad L 0)), (2, .ref (pw_ad L 49)), (3, .int i)] → W p (pw_l L) e room_1 s m #[Value.ref b] below meth c H locs cs sl (lw_Z below #[Value.ref b] s) (F0 m pc ls st)
theorem pw_goG {L : pw_Lay} {p : Program} {l : Launch} {e : Env} {R : Room} {s : State} {m : MethodId} {args : Array Value} {below : List Frame} {meth : Method} {c : Code} {H : Heap} {locs : List Loc} {Q : State → Prop} {pc cs sl : Nat} {lsM : Array Slot} {rest st0 : List Value} {a : Array Value} {H0 : Heap} {K' : pw_K} (hr : va_Run p l e R s m args below meth c H locs cs sl 0 0 (F0 m pc lsM st0) rest (pw_Q L K' a) (pw_A L)) (hS : va_S (pw_A L) H0 H locs)
    (kk : ∀ (r : Option Value) (σ' : pw_Mem) (H1 : Heap) (locs1 : List Loc), K' r σ' → va_P (pw_G L) pw_cl (pw_wl L σ') H1 → va_S (pw_A L) H0 H1 locs1 → W p l e R s m args below meth c H1 locs1 cs sl Q (F0 m (pc + 3) lsM ((r.map (pw_tr L)).toList ++ rest))) : W p l e R s m args below meth c H locs cs sl Q (F0 m pc lsM st0) := by
  intro T hT X
  obtain ⟨v, st₀, t, T', L9, h0, X', hL, e1, e2, ⟨⟨r, σ', hv, hK, hP⟩, hz, hk⟩, st⟩ := hr T hT X
  cases hv
  rw [h0] at hz hk
  obtain ⟨t2, a1, b1⟩ := kk r σ' T'.heap (locs ++ L9) hK (by rw [e1]; exact hP)
    ⟨Nat.le_trans hS.1 (by rw [e1]; exact hz), fun q h1 h2 => by rw [e1, hk q (Nat.lt_of_lt_of_le h1 hS.1) h2]; exact hS.2.1 q h1 h2, fun q hq => by
      rcases List.mem_append.mp hq with h | h
      · exact hS.2.2 q h
      · exact hL q h⟩ T' rfl X'
  exact ⟨t2, st t2 a1, b1⟩
section LAW
variable {p : Program} {e : Env} {s : State} {m : MethodId} {below : List Frame} {meth : Method} {c : Code} {b Ln : Nat} {xs : Nat → Int32} {L : pw_Lay} {cs sl pc : Nat} {i : Int32} {st stk : List Value} {σ : pw_Mem}
theorem lE.ws (hE : lE L p s m meth c b Ln xs) : ∀ w ∈ pw_ws, w.before #[Value.ref b] s = true := fun w hw => hE.1.2.2.2.2.2.1 w (List.mem_filter.mp hw).1
theorem lE.bA (hE : lE L p s m meth c b Ln xs) : ¬ pw_A L b := fun h => Nat.not_le.mpr hE.1.2.2.2.2.2.2.2.1 (hE.2.2.2 b h)
theorem l_al0 (hE : lE L p s m meth c b Ln xs) (hd : decode cL_law pc = .ok (.aload_n 0, 1)) (kk : LW L p e s m below meth c b cs sl (pc + 1) i (.ref b :: st) σ) : LW L p e s m below meth c b cs sl pc i st σ := fun H locs ls hP hD hS hl => lv_aload_n hE.1.1 hE.1.2.1 hd rfl (lv_at hl 0 rfl) (kk H locs ls hP hD hS hl)
theorem l_al1 (hE : lE L p s m meth c b Ln xs) (hd : decode cL_law pc = .ok (.aload_n 1, 1)) (kk : LW L p e s m below meth c b cs sl (pc + 1) i (.ref (pw_ad L 0) :: st) σ) : LW L p e s m below meth c b cs sl pc i st σ := fun H locs ls hP hD hS hl => lv_aload_n hE.1.1 hE.1.2.1 hd rfl (lv_at hl 1 rfl) (kk H locs ls hP hD hS hl)
theorem l_al2 (hE : lE L p s m meth c b Ln xs) (hd : decode cL_law pc = .ok (.aload_n 2, 1)) (kk : LW L p e s m below meth c b cs sl (pc + 1) i (.ref (pw_ad L 49) :: st) σ) : LW L p e s m below meth c b cs sl pc i st σ := fun H locs ls hP hD hS hl => lv_aload_n hE.1.1 hE.1.2.1 hd rfl (lv_at hl 2 rfl) (kk H locs ls hP hD hS hl)
theorem l_arg {n : Int} {v : Int32} (hE : lE L p s m meth c b Ln xs) (d0 : decode cL_law pc = .ok (.aload_n 0, 1)) (d1 : decode cL_law (pc + 1) = .ok (.iload_n 3, 1)) (d2 : decode cL_law (pc + 2) = .ok (.iconst n, 1)) (hv : Int32.ofInt n = v) (d3 : decode cL_law (pc + 3) = .ok (.iadd, 1)) (d4 : decode cL_law (pc + 4) = .ok (.iaload, 1)) (hin : vp_in (i + v) Ln) (kk : LW L p e s m below meth c b cs sl (pc + 5) i (.int (xs (i + v).toNatClampNeg) :: st) σ) : LW L p e s m below meth c b cs sl pc i st σ := by
  intro H locs ls hP hD hS hl
  have hx := hE.1.1
  have hb := hE.1.2.1
  refine lv_aload_n hx hb d0 rfl (lv_at hl 0 rfl) ?_
  refine lv_iload_n hx hb d1 rfl (lv_at hl 3 rfl) ?_
  refine lv_iconst hx hb d2 hv ?_
  refine lv_iadd hx hb d3 ?_
  exact va_sld hx hb hE.1.2.2.2.2.2.2.1 hE.1.2.2.2.2.2.2.2.1 hE.bA hS hin d4 (kk H locs ls hP hD hS hl)
theorem l_argb {n : Int} {v : Int32} (hE : lE L p s m meth c b Ln xs) (d0 : decode cL_law pc = .ok (.aload_n 0, 1)) (d1 : decode cL_law (pc + 1) = .ok (.iload_n 3, 1)) (d2 : decode cL_law (pc + 2) = .ok (.iconst n, 1)) (hv : Int32.ofInt n = v) (d3 : decode cL_law (pc + 3) = .ok (.iadd, 1)) (d4 : decode cL_law (pc + 4) = .ok (.iaload, 1)) (hin : vp_in (i + v) Ln) (d5 : decode cL_law (pc + 5) = .ok (.ifCond .eq 7, 3)) (d6 : decode cL_law (pc + 8) = .ok (.iconst 1, 1)) (d7 : decode cL_law (pc + 9) = .ok (.goto 4, 3)) (d8 : decode cL_law (pc + 12) = .ok (.iconst 0, 1)) (kk : LW L p e s m below meth c b cs sl (pc + 13) i (.int (if xs (i + v).toNatClampNeg = 0 then 0 else 1) :: st) σ) : LW L p e s m below meth c b cs sl pc i st σ := by
  refine l_arg hE d0 d1 d2 hv d3 d4 hin ?_
  intro H locs ls hP hD hS hl
  have hx := hE.1.1
  have hb := hE.1.2.1
  refine lv_if_eq (tgt := pc + 12) hx hb d5 (by omega) (fun q => ?_) (fun q => ?_)
  · rw [if_pos q] at kk
    exact lv_iconst hx hb d8 (by decide) (kk H locs ls hP hD hS hl)
  · rw [if_neg q] at kk
    refine lv_iconst hx hb d6 (v := 1) (by decide) ?_
    exact lv_goto (tgt := pc + 13) hx hb d7 (by omega) (kk H locs ls hP hD hS hl)
theorem l_eq {x y : Int32} {off : Int} {tgt : Nat} (hE : lE L p s m meth c b Ln xs) (hd : decode cL_law pc = .ok (.if_icmp .eq off, 3)) (ht : (pc : Int) + off = (tgt : Int)) (he : x = y) (kk : LW L p e s m below meth c b cs sl tgt i st σ) : LW L p e s m below meth c b cs sl pc i (.int y :: .int x :: st) σ := fun H locs ls hP hD hS hl =>
  lv_icmp_eq hE.1.1 hE.1.2.1 hd ht (fun _ => kk H locs ls hP hD hS hl) (fun q => absurd he q)
theorem l_call {d idx ci k n : Nat} {fs : List (Option Nat)} {M' : pw_Md} {K' : Int32 → pw_Mem → Prop} (hE : lE L p s m meth c b Ln xs) (as : List Value) (hd : decode cL_law pc = .ok (.invokevirtual idx, 3)) (hm : pw_MV RL idx ci M' n) (hs : pw_shp[k]? = some (.inl (ci, fs))) (hst : stk = (as.map (pw_tr L)).reverse ++ .ref (pw_ad L k) :: st) (hn : as.length = n) (hc : (st.map fun v => v.category).sum ≤ 8) (hdd : d ≤ 2000) (hcs : cs ≤ 600000) (hsl : sl ≤ 7302250) (ct : CT L d M' (.ref k :: as) σ (ki K')) (hk : ∀ x τ, K' x τ → LW L p e s m below meth c b cs sl (pc + 3) i (.int x :: st) τ) : LW L p e s m below meth c b cs sl pc i stk σ := by
  intro H locs ls hP hD hS hl
  obtain ⟨⟨T, N, hcl⟩, h1, h2, h3, h4⟩ := hm
  have hts := hE.ws
  have h20 := h4.2.2.2
  have hrun := va_runV (l := pw_l L) (R := room_1) (H := H) (locs := locs) (cells := cs) (slots := sl) (below := below) (meth := meth) (e := e) (g := F0 m pc ls stk) (b := pw_ad L k) (As := as.map (pw_tr L)) (rest := st) ⟨hE.1.1, hE.1.2.1, hE.1.2.2.2.1, hE.1.2.2.2.2.1, hts⟩ ct ⟨callB_of n hts (pw_goods h4) rfl rfl rfl (hts _ h4.1) (hts _ h1) h4.2.2.1 ⟨show d + 1 ≤ 2048 by omega, show 8 + (M'.2.2.2.1 + 11) + 40 * d ≤ 84000 by omega⟩, hts _ h2, hts _ h3⟩
    ⟨pw_blind, va_recv hE.2.1 hP hcl (pw_wl_at hs), fun U hU hWm => ⟨rfl, by rw [hU]; exact hP, va_K.moved hWm.alike hE.2.1, hD, pw_N.warm hWm hE.2.2.1⟩⟩ rfl (by rw [List.length_map]; exact hn) hl.1 hst (lv_room hc) hd ⟨hcs, hsl⟩
  refine pw_goG hrun hS (fun r σ' H1 locs1 hK hP1 hS1 => ?_)
  obtain ⟨x, rfl, hK⟩ := hK
  exact hk x σ' hK H1 locs1 ls hP1 (pw_D_any hD) hS1 hl
set_option maxRecDepth 100000 in
theorem law_0 (hE : lE L p s m meth c b Ln xs) (hcs : cs ≤ 600000) (hsl : sl ≤ 7302250) (hI : Inv σ) (hin : ∀ v : Int32, v.toNatClampNeg ≤ 4 ∧ ¬ v < 0 → vp_in (i + v) Ln) (kk : ∀ τ, Inv τ → LW L p e s m below meth c b cs sl 1161 i [] τ) : LW L p e s m below meth c b cs sl 164 i [] σ := by
  refine l_al1 hE dL_law_164 ?_
  refine l_arg hE dL_law_165 dL_law_166 dL_law_167 (v := 1) (by decide) dL_law_168 dL_law_169 (hin 1 (by decide)) ?_
  refine l_call hE (d := 1) (k := 0) [.int (xs (i + 1).toNatClampNeg)] dL_law_170 mv_L_13 rfl rfl rfl (Nat.zero_le _) (by decide) hcs hsl (c_X10_routine (o_routine hI)) (fun x τ hK => ?_)
  refine l_al2 hE dL_law_173 ?_
  refine l_arg hE dL_law_174 dL_law_175 dL_law_176 (v := 1) (by decide) dL_law_177 dL_law_178 (hin 1 (by decide)) ?_
  refine l_call hE (d := 1) (k := 49) [.int (xs (i + 1).toNatClampNeg)] dL_law_179 mv_L_17 rfl rfl rfl (show 1 ≤ 8 by decide) (by decide) hcs hsl (c_X11_routine hK) (fun y ρ hN => ?_)
  exact l_eq hE dL_law_182 (by decide) hN.1 (kk ρ hN.2)
set_option maxRecDepth 100000 in
theorem law_1 (hE : lE L p s m meth c b Ln xs) (hcs : cs ≤ 600000) (hsl : sl ≤ 7302250) (hI : Inv σ) (hin : ∀ v : Int32, v.toNatClampNeg ≤ 4 ∧ ¬ v < 0 → vp_in (i + v) Ln) (kk : ∀ τ, Inv τ → LW L p e s m below meth c b cs sl 1161 i [] τ) : LW L p e s m below meth c b cs sl 187 i [] σ := by
  refine l_al1 hE dL_law_187 ?_
  refine l_arg hE dL_law_188 dL_law_189 dL_law_190 (v := 1) (by decide) dL_law_191 dL_law_192 (hin 1 (by decide)) ?_
  refine l_arg hE dL_law_193 dL_law_194 dL_law_195 (v := 2) (by decide) dL_law_196 dL_law_197 (hin 2 (by decide)) ?_
  refine l_call hE (d := 2) (k := 0) [.int (xs (i + 1).toNatClampNeg), .int (xs (i + 2).toNatClampNeg)] dL_law_198 mv_L_18 rfl rfl rfl (Nat.zero_le _) (by decide) hcs hsl (c_X10_frame (o_frame hI)) (fun x τ hK => ?_)
  refine l_al2 hE dL_law_201 ?_
  refine l_arg hE dL_law_202 dL_law_203 dL_law_204 (v := 1) (by decide) dL_law_205 dL_law_206 (hin 1 (by decide)) ?_
  refine l_arg hE dL_law_207 dL_law_208 dL_law_209 (v := 2) (by decide) dL_law_210 dL_law_211 (hin 2 (by decide)) ?_
  refine l_call hE (d := 2) (k := 49) [.int (xs (i + 1).toNatClampNeg), .int (xs (i + 2).toNatClampNeg)] dL_law_212 mv_L_22 rfl rfl rfl (show 1 ≤ 8 by decide) (by decide) hcs hsl (c_X11_frame hK) (fun y ρ hN => ?_)
  exact l_eq hE dL_law_215 (by decide) hN.1 (kk ρ hN.2)
set_option maxRecDepth 100000 in
theorem law_2 (hE : lE L p s m meth c b Ln xs) (hcs : cs ≤ 600000) (hsl : sl ≤ 7302250) (hI : Inv σ) (hin : ∀ v : Int32, v.toNatClampNeg ≤ 4 ∧ ¬ v < 0 → vp_in (i + v) Ln) (kk : ∀ τ, Inv τ → LW L p e s m below meth c b cs sl 1161 i [] τ) : LW L p e s m below meth c b cs sl 220 i [] σ := by
  refine l_al1 hE dL_law_220 ?_
  refine l_arg hE dL_law_221 dL_law_222 dL_law_223 (v := 1) (by decide) dL_law_224 dL_law_225 (hin 1 (by decide)) ?_
  refine l_arg hE dL_law_226 dL_law_227 dL_law_228 (v := 2) (by decide) dL_law_229 dL_law_230 (hin 2 (by decide)) ?_
  refine l_call hE (d := 2) (k := 0) [.int (xs (i + 1).toNatClampNeg), .int (xs (i + 2).toNatClampNeg)] dL_law_231 mv_L_23 rfl rfl rfl (Nat.zero_le _) (by decide) hcs hsl (c_X10_turns (o_turns hI)) (fun x τ hK => ?_)
  refine l_al2 hE dL_law_234 ?_
  refine l_arg hE dL_law_235 dL_law_236 dL_law_237 (v := 1) (by decide) dL_law_238 dL_law_239 (hin 1 (by decide)) ?_
  refine l_arg hE dL_law_240 dL_law_241 dL_law_242 (v := 2) (by decide) dL_law_243 dL_law_244 (hin 2 (by decide)) ?_
  refine l_call hE (d := 2) (k := 49) [.int (xs (i + 1).toNatClampNeg), .int (xs (i + 2).toNatClampNeg)] dL_law_245 mv_L_26 rfl rfl rfl (show 1 ≤ 8 by decide) (by decide) hcs hsl (c_X11_turns hK) (fun y ρ hN => ?_)
  exact l_eq hE dL_law_248 (by decide) hN.1 (kk ρ hN.2)
set_option maxRecDepth 100000 in
theorem law_3 (hE : lE L p s m meth c b Ln xs) (hcs : cs ≤ 600000) (hsl : sl ≤ 7302250) (hI : Inv σ) (hin : ∀ v : Int32, v.toNatClampNeg ≤ 4 ∧ ¬ v < 0 → vp_in (i + v) Ln) (kk : ∀ τ, Inv τ → LW L p e s m below meth c b cs sl 1161 i [] τ) : LW L p e s m below meth c b cs sl 253 i [] σ := by
  refine l_al1 hE dL_law_253 ?_
  refine l_arg hE dL_law_254 dL_law_255 dL_law_256 (v := 1) (by decide) dL_law_257 dL_law_258 (hin 1 (by decide)) ?_
  refine l_arg hE dL_law_259 dL_law_260 dL_law_261 (v := 2) (by decide) dL_law_262 dL_law_263 (hin 2 (by decide)) ?_
  refine l_argb hE dL_law_264 dL_law_265 dL_law_266 (v := 3) (by decide) dL_law_267 dL_law_268 (hin 3 (by decide)) dL_law_269 dL_law_272 dL_law_273 dL_law_276 ?_
  refine l_argb hE dL_law_277 dL_law_278 dL_law_279 (v := 4) (by decide) dL_law_280 dL_law_281 (hin 4 (by decide)) dL_law_282 dL_law_285 dL_law_286 dL_law_289 ?_
  refine l_call hE (d := 4) (k := 0) [.int (xs (i + 1).toNatClampNeg), .int (xs (i + 2).toNatClampNeg), .int (if xs (i + 3).toNatClampNeg = 0 then 0 else 1), .int (if xs (i + 4).toNatClampNeg = 0 then 0 else 1)] dL_law_290 mv_L_27 rfl rfl rfl (Nat.zero_le _) (by decide) hcs hsl (c_X10_call (o_call hI)) (fun x τ hK => ?_)
  refine l_al2 hE dL_law_293 ?_
  refine l_arg hE dL_law_294 dL_law_295 dL_law_296 (v := 1) (by decide) dL_law_297 dL_law_298 (hin 1 (by decide)) ?_
  refine l_arg hE dL_law_299 dL_law_300 dL_law_301 (v := 2) (by decide) dL_law_302 dL_law_303 (hin 2 (by decide)) ?_
  refine l_argb hE dL_law_304 dL_law_305 dL_law_306 (v := 3) (by decide) dL_law_307 dL_law_308 (hin 3 (by decide)) dL_law_309 dL_law_312 dL_law_313 dL_law_316 ?_
  refine l_argb hE dL_law_317 dL_law_318 dL_law_319 (v := 4) (by decide) dL_law_320 dL_law_321 (hin 4 (by decide)) dL_law_322 dL_law_325 dL_law_326 dL_law_329 ?_
  refine l_call hE (d := 3) (k := 49) [.int (xs (i + 1).toNatClampNeg), .int (xs (i + 2).toNatClampNeg), .int (if xs (i + 3).toNatClampNeg = 0 then 0 else 1), .int (if xs (i + 4).toNatClampNeg = 0 then 0 else 1)] dL_law_330 mv_L_31 rfl rfl rfl (show 1 ≤ 8 by decide) (by decide) hcs hsl (c_X11_call hK) (fun y ρ hN => ?_)
  exact l_eq hE dL_law_333 (by decide) hN.1 (kk ρ hN.2)
set_option maxRecDepth 100000 in
theorem law_4 (hE : lE L p s m meth c b Ln xs) (hcs : cs ≤ 600000) (hsl : sl ≤ 7302250) (hI : Inv σ) (hin : ∀ v : Int32, v.toNatClampNeg ≤ 4 ∧ ¬ v < 0 → vp_in (i + v) Ln) (kk : ∀ τ, Inv τ → LW L p e s m below meth c b cs sl 1161 i [] τ) : LW L p e s m below meth c b cs sl 338 i [] σ := by
  refine l_al1 hE dL_law_338 ?_
  refine l_arg hE dL_law_339 dL_law_340 dL_law_341 (v := 1) (by decide) dL_law_342 dL_law_343 (hin 1 (by decide)) ?_
  refine l_arg hE dL_law_344 dL_law_345 dL_law_346 (v := 2) (by decide) dL_law_347 dL_law_348 (hin 2 (by decide)) ?_
  refine l_argb hE dL_law_349 dL_law_350 dL_law_351 (v := 3) (by decide) dL_law_352 dL_law_353 (hin 3 (by decide)) dL_law_354 dL_law_357 dL_law_358 dL_law_361 ?_
  refine l_argb hE dL_law_362 dL_law_363 dL_law_364 (v := 4) (by decide) dL_law_365 dL_law_366 (hin 4 (by decide)) dL_law_367 dL_law_370 dL_law_371 dL_law_374 ?_
  refine l_call hE (d := 3) (k := 0) [.int (xs (i + 1).toNatClampNeg), .int (xs (i + 2).toNatClampNeg), .int (if xs (i + 3).toNatClampNeg = 0 then 0 else 1), .int (if xs (i + 4).toNatClampNeg = 0 then 0 else 1)] dL_law_375 mv_L_32 rfl rfl rfl (Nat.zero_le _) (by decide) hcs hsl (c_X10_cut (o_cut hI)) (fun x τ hK => ?_)
  refine l_al2 hE dL_law_378 ?_
  refine l_arg hE dL_law_379 dL_law_380 dL_law_381 (v := 1) (by decide) dL_law_382 dL_law_383 (hin 1 (by decide)) ?_
  refine l_arg hE dL_law_384 dL_law_385 dL_law_386 (v := 2) (by decide) dL_law_387 dL_law_388 (hin 2 (by decide)) ?_
  refine l_argb hE dL_law_389 dL_law_390 dL_law_391 (v := 3) (by decide) dL_law_392 dL_law_393 (hin 3 (by decide)) dL_law_394 dL_law_397 dL_law_398 dL_law_401 ?_
  refine l_argb hE dL_law_402 dL_law_403 dL_law_404 (v := 4) (by decide) dL_law_405 dL_law_406 (hin 4 (by decide)) dL_law_407 dL_law_410 dL_law_411 dL_law_414 ?_
  refine l_call hE (d := 2) (k := 49) [.int (xs (i + 1).toNatClampNeg), .int (xs (i + 2).toNatClampNeg), .int (if xs (i + 3).toNatClampNeg = 0 then 0 else 1), .int (if xs (i + 4).toNatClampNeg = 0 then 0 else 1)] dL_law_415 mv_L_35 rfl rfl rfl (show 1 ≤ 8 by decide) (by decide) hcs hsl (c_X11_cut hK) (fun y ρ hN => ?_)
  exact l_eq hE dL_law_418 (by decide) hN.1 (kk ρ hN.2)
set_option maxRecDepth 100000 in
theorem law_5 (hE : lE L p s m meth c b Ln xs) (hcs : cs ≤ 600000) (hsl : sl ≤ 7302250) (hI : Inv σ) (hin : ∀ v : Int32, v.toNatClampNeg ≤ 4 ∧ ¬ v < 0 → vp_in (i + v) Ln) (kk : ∀ τ, Inv τ → LW L p e s m below meth c b cs sl 1161 i [] τ) : LW L p e s m below meth c b cs sl 423 i [] σ := by
  refine l_al1 hE dL_law_423 ?_
  refine l_arg hE dL_law_424 dL_law_425 dL_law_426 (v := 1) (by decide) dL_law_427 dL_law_428 (hin 1 (by decide)) ?_
  refine l_arg hE dL_law_429 dL_law_430 dL_law_431 (v := 2) (by decide) dL_law_432 dL_law_433 (hin 2 (by decide)) ?_
  refine l_call hE (d := 4) (k := 0) [.int (xs (i + 1).toNatClampNeg), .int (xs (i + 2).toNatClampNeg)] dL_law_434 mv_L_36 rfl rfl rfl (Nat.zero_le _) (by decide) hcs hsl (c_X10_take (o_take hI)) (fun x τ hK => ?_)
  refine l_al2 hE dL_law_437 ?_
  refine l_arg hE dL_law_438 dL_law_439 dL_law_440 (v := 1) (by decide) dL_law_441 dL_law_442 (hin 1 (by decide)) ?_
  refine l_arg hE dL_law_443 dL_law_444 dL_law_445 (v := 2) (by decide) dL_law_446 dL_law_447 (hin 2 (by decide)) ?_
  refine l_call hE (d := 2) (k := 49) [.int (xs (i + 1).toNatClampNeg), .int (xs (i + 2).toNatClampNeg)] dL_law_448 mv_L_39 rfl rfl rfl (show 1 ≤ 8 by decide) (by decide) hcs hsl (c_X11_take hK) (fun y ρ hN => ?_)
  exact l_eq hE dL_law_451 (by decide) hN.1 (kk ρ hN.2)
set_option maxRecDepth 100000 in
theorem law_6 (hE : lE L p s m meth c b Ln xs) (hcs : cs ≤ 600000) (hsl : sl ≤ 7302250) (hI : Inv σ) (hin : ∀ v : Int32, v.toNatClampNeg ≤ 4 ∧ ¬ v < 0 → vp_in (i + v) Ln) (kk : ∀ τ, Inv τ → LW L p e s m below meth c b cs sl 1161 i [] τ) : LW L p e s m below meth c b cs sl 456 i [] σ := by
  refine l_al1 hE dL_law_456 ?_
  refine l_arg hE dL_law_457 dL_law_458 dL_law_459 (v := 1) (by decide) dL_law_460 dL_law_461 (hin 1 (by decide)) ?_
  refine l_arg hE dL_law_462 dL_law_463 dL_law_464 (v := 2) (by decide) dL_law_465 dL_law_466 (hin 2 (by decide)) ?_
  refine l_call hE (d := 4) (k := 0) [.int (xs (i + 1).toNatClampNeg), .int (xs (i + 2).toNatClampNeg)] dL_law_467 mv_L_40 rfl rfl rfl (Nat.zero_le _) (by decide) hcs hsl (c_X10_flow (o_flow hI)) (fun x τ hK => ?_)
  refine l_al2 hE dL_law_470 ?_
  refine l_arg hE dL_law_471 dL_law_472 dL_law_473 (v := 1) (by decide) dL_law_474 dL_law_475 (hin 1 (by decide)) ?_
  refine l_arg hE dL_law_476 dL_law_477 dL_law_478 (v := 2) (by decide) dL_law_479 dL_law_480 (hin 2 (by decide)) ?_
  refine l_call hE (d := 2) (k := 49) [.int (xs (i + 1).toNatClampNeg), .int (xs (i + 2).toNatClampNeg)] dL_law_481 mv_L_43 rfl rfl rfl (show 1 ≤ 8 by decide) (by decide) hcs hsl (c_X11_flow hK) (fun y ρ hN => ?_)
  exact l_eq hE dL_law_484 (by decide) hN.1 (kk ρ hN.2)
set_option maxRecDepth 100000 in
theorem law_7 (hE : lE L p s m meth c b Ln xs) (hcs : cs ≤ 600000) (hsl : sl ≤ 7302250) (hI : Inv σ) (hin : ∀ v : Int32, v.toNatClampNeg ≤ 4 ∧ ¬ v < 0 → vp_in (i + v) Ln) (kk : ∀ τ, Inv τ → LW L p e s m below meth c b cs sl 1161 i [] τ) : LW L p e s m below meth c b cs sl 489 i [] σ := by
  refine l_al1 hE dL_law_489 ?_
  refine l_arg hE dL_law_490 dL_law_491 dL_law_492 (v := 1) (by decide) dL_law_493 dL_law_494 (hin 1 (by decide)) ?_
  refine l_call hE (d := 2) (k := 0) [.int (xs (i + 1).toNatClampNeg)] dL_law_495 mv_L_44 rfl rfl rfl (Nat.zero_le _) (by decide) hcs hsl (c_X10_goals (o_goals hI)) (fun x τ hK => ?_)
  refine l_al2 hE dL_law_498 ?_
  refine l_arg hE dL_law_499 dL_law_500 dL_law_501 (v := 1) (by decide) dL_law_502 dL_law_503 (hin 1 (by decide)) ?_
  refine l_call hE (d := 2) (k := 49) [.int (xs (i + 1).toNatClampNeg)] dL_law_504 mv_L_47 rfl rfl rfl (show 1 ≤ 8 by decide) (by decide) hcs hsl (c_X11_goals hK) (fun y ρ hN => ?_)
  exact l_eq hE dL_law_507 (by decide) hN.1 (kk ρ hN.2)
set_option maxRecDepth 100000 in
theorem law_8 (hE : lE L p s m meth c b Ln xs) (hcs : cs ≤ 600000) (hsl : sl ≤ 7302250) (hI : Inv σ) (hin : ∀ v : Int32, v.toNatClampNeg ≤ 4 ∧ ¬ v < 0 → vp_in (i + v) Ln) (kk : ∀ τ, Inv τ → LW L p e s m below meth c b cs sl 1161 i [] τ) : LW L p e s m below meth c b cs sl 512 i [] σ := by
  refine l_al1 hE dL_law_512 ?_
  refine l_arg hE dL_law_513 dL_law_514 dL_law_515 (v := 1) (by decide) dL_law_516 dL_law_517 (hin 1 (by decide)) ?_
  refine l_arg hE dL_law_518 dL_law_519 dL_law_520 (v := 2) (by decide) dL_law_521 dL_law_522 (hin 2 (by decide)) ?_
  refine l_call hE (d := 4) (k := 0) [.int (xs (i + 1).toNatClampNeg), .int (xs (i + 2).toNatClampNeg)] dL_law_523 mv_L_48 rfl rfl rfl (Nat.zero_le _) (by decide) hcs hsl (c_X10_about (o_about hI)) (fun x τ hK => ?_)
  refine l_al2 hE dL_law_526 ?_
  refine l_arg hE dL_law_527 dL_law_528 dL_law_529 (v := 1) (by decide) dL_law_530 dL_law_531 (hin 1 (by decide)) ?_
  refine l_arg hE dL_law_532 dL_law_533 dL_law_534 (v := 2) (by decide) dL_law_535 dL_law_536 (hin 2 (by decide)) ?_
  refine l_call hE (d := 2) (k := 49) [.int (xs (i + 1).toNatClampNeg), .int (xs (i + 2).toNatClampNeg)] dL_law_537 mv_L_51 rfl rfl rfl (show 1 ≤ 8 by decide) (by decide) hcs hsl (c_X11_about hK) (fun y ρ hN => ?_)
  exact l_eq hE dL_law_540 (by decide) hN.1 (kk ρ hN.2)
set_option maxRecDepth 100000 in
theorem law_9 (hE : lE L p s m meth c b Ln xs) (hcs : cs ≤ 600000) (hsl : sl ≤ 7302250) (hI : Inv σ) (hin : ∀ v : Int32, v.toNatClampNeg ≤ 4 ∧ ¬ v < 0 → vp_in (i + v) Ln) (kk : ∀ τ, Inv τ → LW L p e s m below meth c b cs sl 1161 i [] τ) : LW L p e s m below meth c b cs sl 545 i [] σ := by
  refine l_al1 hE dL_law_545 ?_
  refine l_arg hE dL_law_546 dL_law_547 dL_law_548 (v := 1) (by decide) dL_law_549 dL_law_550 (hin 1 (by decide)) ?_
  refine l_call hE (d := 5) (k := 0) [.int (xs (i + 1).toNatClampNeg)] dL_law_551 mv_L_52 rfl rfl rfl (Nat.zero_le _) (by decide) hcs hsl (c_X10_depth (o_depth hI)) (fun x τ hK => ?_)
  refine l_al2 hE dL_law_554 ?_
  refine l_arg hE dL_law_555 dL_law_556 dL_law_557 (v := 1) (by decide) dL_law_558 dL_law_559 (hin 1 (by decide)) ?_
  refine l_call hE (d := 4) (k := 49) [.int (xs (i + 1).toNatClampNeg)] dL_law_560 mv_L_55 rfl rfl rfl (show 1 ≤ 8 by decide) (by decide) hcs hsl (c_X11_depth hK) (fun y ρ hN => ?_)
  exact l_eq hE dL_law_563 (by decide) hN.1 (kk ρ hN.2)
set_option maxRecDepth 100000 in
theorem law_10 (hE : lE L p s m meth c b Ln xs) (hcs : cs ≤ 600000) (hsl : sl ≤ 7302250) (hI : Inv σ) (hin : ∀ v : Int32, v.toNatClampNeg ≤ 4 ∧ ¬ v < 0 → vp_in (i + v) Ln) (kk : ∀ τ, Inv τ → LW L p e s m below meth c b cs sl 1161 i [] τ) : LW L p e s m below meth c b cs sl 568 i [] σ := by
  refine l_al1 hE dL_law_568 ?_
  refine l_arg hE dL_law_569 dL_law_570 dL_law_571 (v := 1) (by decide) dL_law_572 dL_law_573 (hin 1 (by decide)) ?_
  refine l_arg hE dL_law_574 dL_law_575 dL_law_576 (v := 2) (by decide) dL_law_577 dL_law_578 (hin 2 (by decide)) ?_
  refine l_call hE (d := 5) (k := 0) [.int (xs (i + 1).toNatClampNeg), .int (xs (i + 2).toNatClampNeg)] dL_law_579 mv_L_56 rfl rfl rfl (Nat.zero_le _) (by decide) hcs hsl (c_X10_way (o_way hI)) (fun x τ hK => ?_)
  refine l_al2 hE dL_law_582 ?_
  refine l_arg hE dL_law_583 dL_law_584 dL_law_585 (v := 1) (by decide) dL_law_586 dL_law_587 (hin 1 (by decide)) ?_
  refine l_arg hE dL_law_588 dL_law_589 dL_law_590 (v := 2) (by decide) dL_law_591 dL_law_592 (hin 2 (by decide)) ?_
  refine l_call hE (d := 4) (k := 49) [.int (xs (i + 1).toNatClampNeg), .int (xs (i + 2).toNatClampNeg)] dL_law_593 mv_L_59 rfl rfl rfl (show 1 ≤ 8 by decide) (by decide) hcs hsl (c_X11_way hK) (fun y ρ hN => ?_)
  exact l_eq hE dL_law_596 (by decide) hN.1 (kk ρ hN.2)
set_option maxRecDepth 100000 in
theorem law_11 (hE : lE L p s m meth c b Ln xs) (hcs : cs ≤ 600000) (hsl : sl ≤ 7302250) (hI : Inv σ) (hin : ∀ v : Int32, v.toNatClampNeg ≤ 4 ∧ ¬ v < 0 → vp_in (i + v) Ln) (kk : ∀ τ, Inv τ → LW L p e s m below meth c b cs sl 1161 i [] τ) : LW L p e s m below meth c b cs sl 601 i [] σ := by
  refine l_al1 hE dL_law_601 ?_
  refine l_arg hE dL_law_602 dL_law_603 dL_law_604 (v := 1) (by decide) dL_law_605 dL_law_606 (hin 1 (by decide)) ?_
  refine l_call hE (d := 4) (k := 0) [.int (xs (i + 1).toNatClampNeg)] dL_law_607 mv_L_60 rfl rfl rfl (Nat.zero_le _) (by decide) hcs hsl (c_X10_endless (o_endless hI)) (fun x τ hK => ?_)
  refine l_al2 hE dL_law_610 ?_
  refine l_arg hE dL_law_611 dL_law_612 dL_law_613 (v := 1) (by decide) dL_law_614 dL_law_615 (hin 1 (by decide)) ?_
  refine l_call hE (d := 2) (k := 49) [.int (xs (i + 1).toNatClampNeg)] dL_law_616 mv_L_63 rfl rfl rfl (show 1 ≤ 8 by decide) (by decide) hcs hsl (c_X11_endless hK) (fun y ρ hN => ?_)
  exact l_eq hE dL_law_619 (by decide) hN.1 (kk ρ hN.2)
set_option maxRecDepth 100000 in
theorem law_12 (hE : lE L p s m meth c b Ln xs) (hcs : cs ≤ 600000) (hsl : sl ≤ 7302250) (hI : Inv σ) (hin : ∀ v : Int32, v.toNatClampNeg ≤ 4 ∧ ¬ v < 0 → vp_in (i + v) Ln) (kk : ∀ τ, Inv τ → LW L p e s m below meth c b cs sl 1161 i [] τ) : LW L p e s m below meth c b cs sl 624 i [] σ := by
  refine l_al1 hE dL_law_624 ?_
  refine l_arg hE dL_law_625 dL_law_626 dL_law_627 (v := 1) (by decide) dL_law_628 dL_law_629 (hin 1 (by decide)) ?_
  refine l_arg hE dL_law_630 dL_law_631 dL_law_632 (v := 2) (by decide) dL_law_633 dL_law_634 (hin 2 (by decide)) ?_
  refine l_arg hE dL_law_635 dL_law_636 dL_law_637 (v := 3) (by decide) dL_law_638 dL_law_639 (hin 3 (by decide)) ?_
  refine l_call hE (d := 2) (k := 0) [.int (xs (i + 1).toNatClampNeg), .int (xs (i + 2).toNatClampNeg), .int (xs (i + 3).toNatClampNeg)] dL_law_640 mv_L_64 rfl rfl rfl (Nat.zero_le _) (by decide) hcs hsl (c_X10_interrupt (o_interrupt hI)) (fun x τ hK => ?_)
  refine l_al2 hE dL_law_643 ?_
  refine l_arg hE dL_law_644 dL_law_645 dL_law_646 (v := 1) (by decide) dL_law_647 dL_law_648 (hin 1 (by decide)) ?_
  refine l_arg hE dL_law_649 dL_law_650 dL_law_651 (v := 2) (by decide) dL_law_652 dL_law_653 (hin 2 (by decide)) ?_
  refine l_arg hE dL_law_654 dL_law_655 dL_law_656 (v := 3) (by decide) dL_law_657 dL_law_658 (hin 3 (by decide)) ?_
  refine l_call hE (d := 2) (k := 49) [.int (xs (i + 1).toNatClampNeg), .int (xs (i + 2).toNatClampNeg), .int (xs (i + 3).toNatClampNeg)] dL_law_659 mv_L_68 rfl rfl rfl (show 1 ≤ 8 by decide) (by decide) hcs hsl (c_X11_interrupt hK) (fun y ρ hN => ?_)
  exact l_eq hE dL_law_662 (by decide) hN.1 (kk ρ hN.2)
set_option maxRecDepth 100000 in
theorem law_13 (hE : lE L p s m meth c b Ln xs) (hcs : cs ≤ 600000) (hsl : sl ≤ 7302250) (hI : Inv σ) (hin : ∀ v : Int32, v.toNatClampNeg ≤ 4 ∧ ¬ v < 0 → vp_in (i + v) Ln) (kk : ∀ τ, Inv τ → LW L p e s m below meth c b cs sl 1161 i [] τ) : LW L p e s m below meth c b cs sl 667 i [] σ := by
  refine l_al1 hE dL_law_667 ?_
  refine l_arg hE dL_law_668 dL_law_669 dL_law_670 (v := 1) (by decide) dL_law_671 dL_law_672 (hin 1 (by decide)) ?_
  refine l_arg hE dL_law_673 dL_law_674 dL_law_675 (v := 2) (by decide) dL_law_676 dL_law_677 (hin 2 (by decide)) ?_
  refine l_arg hE dL_law_678 dL_law_679 dL_law_680 (v := 3) (by decide) dL_law_681 dL_law_682 (hin 3 (by decide)) ?_
  refine l_call hE (d := 2) (k := 0) [.int (xs (i + 1).toNatClampNeg), .int (xs (i + 2).toNatClampNeg), .int (xs (i + 3).toNatClampNeg)] dL_law_683 mv_L_69 rfl rfl rfl (Nat.zero_le _) (by decide) hcs hsl (c_X10_task (o_task hI)) (fun x τ hK => ?_)
  refine l_al2 hE dL_law_686 ?_
  refine l_arg hE dL_law_687 dL_law_688 dL_law_689 (v := 1) (by decide) dL_law_690 dL_law_691 (hin 1 (by decide)) ?_
  refine l_arg hE dL_law_692 dL_law_693 dL_law_694 (v := 2) (by decide) dL_law_695 dL_law_696 (hin 2 (by decide)) ?_
  refine l_arg hE dL_law_697 dL_law_698 dL_law_699 (v := 3) (by decide) dL_law_700 dL_law_701 (hin 3 (by decide)) ?_
  refine l_call hE (d := 2) (k := 49) [.int (xs (i + 1).toNatClampNeg), .int (xs (i + 2).toNatClampNeg), .int (xs (i + 3).toNatClampNeg)] dL_law_702 mv_L_72 rfl rfl rfl (show 1 ≤ 8 by decide) (by decide) hcs hsl (c_X11_task hK) (fun y ρ hN => ?_)
  exact l_eq hE dL_law_705 (by decide) hN.1 (kk ρ hN.2)
set_option maxRecDepth 100000 in
theorem law_14 (hE : lE L p s m meth c b Ln xs) (hcs : cs ≤ 600000) (hsl : sl ≤ 7302250) (hI : Inv σ) (hin : ∀ v : Int32, v.toNatClampNeg ≤ 4 ∧ ¬ v < 0 → vp_in (i + v) Ln) (kk : ∀ τ, Inv τ → LW L p e s m below meth c b cs sl 1161 i [] τ) : LW L p e s m below meth c b cs sl 710 i [] σ := by
  refine l_al1 hE dL_law_710 ?_
  refine l_arg hE dL_law_711 dL_law_712 dL_law_713 (v := 1) (by decide) dL_law_714 dL_law_715 (hin 1 (by decide)) ?_
  refine l_arg hE dL_law_716 dL_law_717 dL_law_718 (v := 2) (by decide) dL_law_719 dL_law_720 (hin 2 (by decide)) ?_
  refine l_call hE (d := 5) (k := 0) [.int (xs (i + 1).toNatClampNeg), .int (xs (i + 2).toNatClampNeg)] dL_law_721 mv_L_73 rfl rfl rfl (Nat.zero_le _) (by decide) hcs hsl (c_X10_total (o_total hI)) (fun x τ hK => ?_)
  refine l_al2 hE dL_law_724 ?_
  refine l_arg hE dL_law_725 dL_law_726 dL_law_727 (v := 1) (by decide) dL_law_728 dL_law_729 (hin 1 (by decide)) ?_
  refine l_arg hE dL_law_730 dL_law_731 dL_law_732 (v := 2) (by decide) dL_law_733 dL_law_734 (hin 2 (by decide)) ?_
  refine l_call hE (d := 4) (k := 49) [.int (xs (i + 1).toNatClampNeg), .int (xs (i + 2).toNatClampNeg)] dL_law_735 mv_L_76 rfl rfl rfl (show 1 ≤ 8 by decide) (by decide) hcs hsl (c_X11_total hK) (fun y ρ hN => ?_)
  exact l_eq hE dL_law_738 (by decide) hN.1 (kk ρ hN.2)
set_option maxRecDepth 100000 in
theorem law_15 (hE : lE L p s m meth c b Ln xs) (hcs : cs ≤ 600000) (hsl : sl ≤ 7302250) (hI : Inv σ) (hin : ∀ v : Int32, v.toNatClampNeg ≤ 4 ∧ ¬ v < 0 → vp_in (i + v) Ln) (kk : ∀ τ, Inv τ → LW L p e s m below meth c b cs sl 1161 i [] τ) : LW L p e s m below meth c b cs sl 743 i [] σ := by
  refine l_al1 hE dL_law_743 ?_
  refine l_arg hE dL_law_744 dL_law_745 dL_law_746 (v := 1) (by decide) dL_law_747 dL_law_748 (hin 1 (by decide)) ?_
  refine l_arg hE dL_law_749 dL_law_750 dL_law_751 (v := 2) (by decide) dL_law_752 dL_law_753 (hin 2 (by decide)) ?_
  refine l_argb hE dL_law_754 dL_law_755 dL_law_756 (v := 3) (by decide) dL_law_757 dL_law_758 (hin 3 (by decide)) dL_law_759 dL_law_762 dL_law_763 dL_law_766 ?_
  refine l_call hE (d := 2) (k := 0) [.int (xs (i + 1).toNatClampNeg), .int (xs (i + 2).toNatClampNeg), .int (if xs (i + 3).toNatClampNeg = 0 then 0 else 1)] dL_law_767 mv_L_77 rfl rfl rfl (Nat.zero_le _) (by decide) hcs hsl (c_X10_apart (o_apart hI)) (fun x τ hK => ?_)
  refine l_al2 hE dL_law_770 ?_
  refine l_arg hE dL_law_771 dL_law_772 dL_law_773 (v := 1) (by decide) dL_law_774 dL_law_775 (hin 1 (by decide)) ?_
  refine l_arg hE dL_law_776 dL_law_777 dL_law_778 (v := 2) (by decide) dL_law_779 dL_law_780 (hin 2 (by decide)) ?_
  refine l_argb hE dL_law_781 dL_law_782 dL_law_783 (v := 3) (by decide) dL_law_784 dL_law_785 (hin 3 (by decide)) dL_law_786 dL_law_789 dL_law_790 dL_law_793 ?_
  refine l_call hE (d := 2) (k := 49) [.int (xs (i + 1).toNatClampNeg), .int (xs (i + 2).toNatClampNeg), .int (if xs (i + 3).toNatClampNeg = 0 then 0 else 1)] dL_law_794 mv_L_81 rfl rfl rfl (show 1 ≤ 8 by decide) (by decide) hcs hsl (c_X11_apart hK) (fun y ρ hN => ?_)
  exact l_eq hE dL_law_797 (by decide) hN.1 (kk ρ hN.2)
set_option maxRecDepth 100000 in
theorem law_16 (hE : lE L p s m meth c b Ln xs) (hcs : cs ≤ 600000) (hsl : sl ≤ 7302250) (hI : Inv σ) (hin : ∀ v : Int32, v.toNatClampNeg ≤ 4 ∧ ¬ v < 0 → vp_in (i + v) Ln) (kk : ∀ τ, Inv τ → LW L p e s m below meth c b cs sl 1161 i [] τ) : LW L p e s m below meth c b cs sl 802 i [] σ := by
  refine l_al1 hE dL_law_802 ?_
  refine l_call hE (d := 11) (k := 0) [] dL_law_803 mv_L_82 rfl rfl rfl (Nat.zero_le _) (by decide) hcs hsl (c_X10_shared (o_shared hI)) (fun x τ hK => ?_)
  refine l_al2 hE dL_law_806 ?_
  refine l_call hE (d := 5) (k := 49) [] dL_law_807 mv_L_86 rfl rfl rfl (show 1 ≤ 8 by decide) (by decide) hcs hsl (c_X11_shared hK) (fun y ρ hN => ?_)
  exact l_eq hE dL_law_810 (by decide) hN.1 (kk ρ hN.2)
set_option maxRecDepth 100000 in
theorem law_17 (hE : lE L p s m meth c b Ln xs) (hcs : cs ≤ 600000) (hsl : sl ≤ 7302250) (hI : Inv σ) (hin : ∀ v : Int32, v.toNatClampNeg ≤ 4 ∧ ¬ v < 0 → vp_in (i + v) Ln) (kk : ∀ τ, Inv τ → LW L p e s m below meth c b cs sl 1161 i [] τ) : LW L p e s m below meth c b cs sl 815 i [] σ := by
  refine l_al1 hE dL_law_815 ?_
  refine l_arg hE dL_law_816 dL_law_817 dL_law_818 (v := 1) (by decide) dL_law_819 dL_law_820 (hin 1 (by decide)) ?_
  refine l_call hE (d := 11) (k := 0) [.int (xs (i + 1).toNatClampNeg)] dL_law_821 mv_L_87 rfl rfl rfl (Nat.zero_le _) (by decide) hcs hsl (c_X10_group (o_group hI)) (fun x τ hK => ?_)
  refine l_al2 hE dL_law_824 ?_
  refine l_arg hE dL_law_825 dL_law_826 dL_law_827 (v := 1) (by decide) dL_law_828 dL_law_829 (hin 1 (by decide)) ?_
  refine l_call hE (d := 5) (k := 49) [.int (xs (i + 1).toNatClampNeg)] dL_law_830 mv_L_90 rfl rfl rfl (show 1 ≤ 8 by decide) (by decide) hcs hsl (c_X11_group hK) (fun y ρ hN => ?_)
  exact l_eq hE dL_law_833 (by decide) hN.1 (kk ρ hN.2)
set_option maxRecDepth 100000 in
theorem law_18 (hE : lE L p s m meth c b Ln xs) (hcs : cs ≤ 600000) (hsl : sl ≤ 7302250) (hI : Inv σ) (hin : ∀ v : Int32, v.toNatClampNeg ≤ 4 ∧ ¬ v < 0 → vp_in (i + v) Ln) (kk : ∀ τ, Inv τ → LW L p e s m below meth c b cs sl 1161 i [] τ) : LW L p e s m below meth c b cs sl 838 i [] σ := by
  refine l_al1 hE dL_law_838 ?_
  refine l_arg hE dL_law_839 dL_law_840 dL_law_841 (v := 1) (by decide) dL_law_842 dL_law_843 (hin 1 (by decide)) ?_
  refine l_arg hE dL_law_844 dL_law_845 dL_law_846 (v := 2) (by decide) dL_law_847 dL_law_848 (hin 2 (by decide)) ?_
  refine l_call hE (d := 6) (k := 0) [.int (xs (i + 1).toNatClampNeg), .int (xs (i + 2).toNatClampNeg)] dL_law_849 mv_L_91 rfl rfl rfl (Nat.zero_le _) (by decide) hcs hsl (c_X10_saves (o_saves hI)) (fun x τ hK => ?_)
  refine l_al2 hE dL_law_852 ?_
  refine l_arg hE dL_law_853 dL_law_854 dL_law_855 (v := 1) (by decide) dL_law_856 dL_law_857 (hin 1 (by decide)) ?_
  refine l_arg hE dL_law_858 dL_law_859 dL_law_860 (v := 2) (by decide) dL_law_861 dL_law_862 (hin 2 (by decide)) ?_
  refine l_call hE (d := 5) (k := 49) [.int (xs (i + 1).toNatClampNeg), .int (xs (i + 2).toNatClampNeg)] dL_law_863 mv_L_94 rfl rfl rfl (show 1 ≤ 8 by decide) (by decide) hcs hsl (c_X11_saves hK) (fun y ρ hN => ?_)
  exact l_eq hE dL_law_866 (by decide) hN.1 (kk ρ hN.2)
set_option maxRecDepth 100000 in
theorem law_19 (hE : lE L p s m meth c b Ln xs) (hcs : cs ≤ 600000) (hsl : sl ≤ 7302250) (hI : Inv σ) (hin : ∀ v : Int32, v.toNatClampNeg ≤ 4 ∧ ¬ v < 0 → vp_in (i + v) Ln) (kk : ∀ τ, Inv τ → LW L p e s m below meth c b cs sl 1161 i [] τ) : LW L p e s m below meth c b cs sl 871 i [] σ := by
  refine l_al1 hE dL_law_871 ?_
  refine l_arg hE dL_law_872 dL_law_873 dL_law_874 (v := 1) (by decide) dL_law_875 dL_law_876 (hin 1 (by decide)) ?_
  refine l_call hE (d := 6) (k := 0) [.int (xs (i + 1).toNatClampNeg)] dL_law_877 mv_L_95 rfl rfl rfl (Nat.zero_le _) (by decide) hcs hsl (c_X10_best (o_best hI)) (fun x τ hK => ?_)
  refine l_al2 hE dL_law_880 ?_
  refine l_arg hE dL_law_881 dL_law_882 dL_law_883 (v := 1) (by decide) dL_law_884 dL_law_885 (hin 1 (by decide)) ?_
  refine l_call hE (d := 5) (k := 49) [.int (xs (i + 1).toNatClampNeg)] dL_law_886 mv_L_98 rfl rfl rfl (show 1 ≤ 8 by decide) (by decide) hcs hsl (c_X11_best hK) (fun y ρ hN => ?_)
  exact l_eq hE dL_law_889 (by decide) hN.1 (kk ρ hN.2)
set_option maxRecDepth 100000 in
theorem law_20 (hE : lE L p s m meth c b Ln xs) (hcs : cs ≤ 600000) (hsl : sl ≤ 7302250) (hI : Inv σ) (hin : ∀ v : Int32, v.toNatClampNeg ≤ 4 ∧ ¬ v < 0 → vp_in (i + v) Ln) (kk : ∀ τ, Inv τ → LW L p e s m below meth c b cs sl 1161 i [] τ) : LW L p e s m below meth c b cs sl 894 i [] σ := by
  refine l_al1 hE dL_law_894 ?_
  refine l_arg hE dL_law_895 dL_law_896 dL_law_897 (v := 1) (by decide) dL_law_898 dL_law_899 (hin 1 (by decide)) ?_
  refine l_call hE (d := 2) (k := 0) [.int (xs (i + 1).toNatClampNeg)] dL_law_900 mv_L_99 rfl rfl rfl (Nat.zero_le _) (by decide) hcs hsl (c_X10_run (o_run hI)) (fun x τ hK => ?_)
  refine l_al2 hE dL_law_903 ?_
  refine l_arg hE dL_law_904 dL_law_905 dL_law_906 (v := 1) (by decide) dL_law_907 dL_law_908 (hin 1 (by decide)) ?_
  refine l_call hE (d := 2) (k := 49) [.int (xs (i + 1).toNatClampNeg)] dL_law_909 mv_L_102 rfl rfl rfl (show 1 ≤ 8 by decide) (by decide) hcs hsl (c_X11_run hK) (fun y ρ hN => ?_)
  exact l_eq hE dL_law_912 (by decide) hN.1 (kk ρ hN.2)
set_option maxRecDepth 100000 in
theorem law_21 (hE : lE L p s m meth c b Ln xs) (hcs : cs ≤ 600000) (hsl : sl ≤ 7302250) (hI : Inv σ) (hin : ∀ v : Int32, v.toNatClampNeg ≤ 4 ∧ ¬ v < 0 → vp_in (i + v) Ln) (kk : ∀ τ, Inv τ → LW L p e s m below meth c b cs sl 1161 i [] τ) : LW L p e s m below meth c b cs sl 917 i [] σ := by
  refine l_al1 hE dL_law_917 ?_
  refine l_arg hE dL_law_918 dL_law_919 dL_law_920 (v := 1) (by decide) dL_law_921 dL_law_922 (hin 1 (by decide)) ?_
  refine l_call hE (d := 4) (k := 0) [.int (xs (i + 1).toNatClampNeg)] dL_law_923 mv_L_103 rfl rfl rfl (Nat.zero_le _) (by decide) hcs hsl (c_X10_enter (o_enter hI)) (fun x τ hK => ?_)
  refine l_al2 hE dL_law_926 ?_
  refine l_arg hE dL_law_927 dL_law_928 dL_law_929 (v := 1) (by decide) dL_law_930 dL_law_931 (hin 1 (by decide)) ?_
  refine l_call hE (d := 2) (k := 49) [.int (xs (i + 1).toNatClampNeg)] dL_law_932 mv_L_106 rfl rfl rfl (show 1 ≤ 8 by decide) (by decide) hcs hsl (c_X11_enter hK) (fun y ρ hN => ?_)
  exact l_eq hE dL_law_935 (by decide) hN.1 (kk ρ hN.2)
set_option maxRecDepth 100000 in
theorem law_22 (hE : lE L p s m meth c b Ln xs) (hcs : cs ≤ 600000) (hsl : sl ≤ 7302250) (hI : Inv σ) (hin : ∀ v : Int32, v.toNatClampNeg ≤ 4 ∧ ¬ v < 0 → vp_in (i + v) Ln) (kk : ∀ τ, Inv τ → LW L p e s m below meth c b cs sl 1161 i [] τ) : LW L p e s m below meth c b cs sl 940 i [] σ := by
  refine l_al1 hE dL_law_940 ?_
  refine l_arg hE dL_law_941 dL_law_942 dL_law_943 (v := 1) (by decide) dL_law_944 dL_law_945 (hin 1 (by decide)) ?_
  refine l_call hE (d := 4) (k := 0) [.int (xs (i + 1).toNatClampNeg)] dL_law_946 mv_L_107 rfl rfl rfl (Nat.zero_le _) (by decide) hcs hsl (c_X10_over (o_over hI)) (fun x τ hK => ?_)
  refine l_al2 hE dL_law_949 ?_
  refine l_arg hE dL_law_950 dL_law_951 dL_law_952 (v := 1) (by decide) dL_law_953 dL_law_954 (hin 1 (by decide)) ?_
  refine l_call hE (d := 2) (k := 49) [.int (xs (i + 1).toNatClampNeg)] dL_law_955 mv_L_110 rfl rfl rfl (show 1 ≤ 8 by decide) (by decide) hcs hsl (c_X11_over hK) (fun y ρ hN => ?_)
  exact l_eq hE dL_law_958 (by decide) hN.1 (kk ρ hN.2)
set_option maxRecDepth 100000 in
theorem law_23 (hE : lE L p s m meth c b Ln xs) (hcs : cs ≤ 600000) (hsl : sl ≤ 7302250) (hI : Inv σ) (hin : ∀ v : Int32, v.toNatClampNeg ≤ 4 ∧ ¬ v < 0 → vp_in (i + v) Ln) (kk : ∀ τ, Inv τ → LW L p e s m below meth c b cs sl 1161 i [] τ) : LW L p e s m below meth c b cs sl 963 i [] σ := by
  refine l_al1 hE dL_law_963 ?_
  refine l_call hE (d := 1) (k := 0) [] dL_law_964 mv_L_111 rfl rfl rfl (Nat.zero_le _) (by decide) hcs hsl (c_X10_leave (o_leave hI)) (fun x τ hK => ?_)
  refine l_al2 hE dL_law_967 ?_
  refine l_call hE (d := 1) (k := 49) [] dL_law_968 mv_L_114 rfl rfl rfl (show 1 ≤ 8 by decide) (by decide) hcs hsl (c_X11_leave hK) (fun y ρ hN => ?_)
  exact l_eq hE dL_law_971 (by decide) hN.1 (kk ρ hN.2)
set_option maxRecDepth 100000 in
theorem law_24 (hE : lE L p s m meth c b Ln xs) (hcs : cs ≤ 600000) (hsl : sl ≤ 7302250) (hI : Inv σ) (hin : ∀ v : Int32, v.toNatClampNeg ≤ 4 ∧ ¬ v < 0 → vp_in (i + v) Ln) (kk : ∀ τ, Inv τ → LW L p e s m below meth c b cs sl 1161 i [] τ) : LW L p e s m below meth c b cs sl 976 i [] σ := by
  refine l_al1 hE dL_law_976 ?_
  refine l_arg hE dL_law_977 dL_law_978 dL_law_979 (v := 1) (by decide) dL_law_980 dL_law_981 (hin 1 (by decide)) ?_
  refine l_call hE (d := 6) (k := 0) [.int (xs (i + 1).toNatClampNeg)] dL_law_982 mv_L_115 rfl rfl rfl (Nat.zero_le _) (by decide) hcs hsl (c_X10_ran (o_ran hI)) (fun x τ hK => ?_)
  refine l_al2 hE dL_law_985 ?_
  refine l_arg hE dL_law_986 dL_law_987 dL_law_988 (v := 1) (by decide) dL_law_989 dL_law_990 (hin 1 (by decide)) ?_
  refine l_call hE (d := 4) (k := 49) [.int (xs (i + 1).toNatClampNeg)] dL_law_991 mv_L_118 rfl rfl rfl (show 1 ≤ 8 by decide) (by decide) hcs hsl (c_X11_ran hK) (fun y ρ hN => ?_)
  exact l_eq hE dL_law_994 (by decide) hN.1 (kk ρ hN.2)
set_option maxRecDepth 100000 in
theorem law_25 (hE : lE L p s m meth c b Ln xs) (hcs : cs ≤ 600000) (hsl : sl ≤ 7302250) (hI : Inv σ) (hin : ∀ v : Int32, v.toNatClampNeg ≤ 4 ∧ ¬ v < 0 → vp_in (i + v) Ln) (kk : ∀ τ, Inv τ → LW L p e s m below meth c b cs sl 1161 i [] τ) : LW L p e s m below meth c b cs sl 999 i [] σ := by
  refine l_al1 hE dL_law_999 ?_
  refine l_arg hE dL_law_1000 dL_law_1001 dL_law_1002 (v := 1) (by decide) dL_law_1003 dL_law_1004 (hin 1 (by decide)) ?_
  refine l_arg hE dL_law_1005 dL_law_1006 dL_law_1007 (v := 2) (by decide) dL_law_1008 dL_law_1009 (hin 2 (by decide)) ?_
  refine l_arg hE dL_law_1010 dL_law_1011 dL_law_1012 (v := 3) (by decide) dL_law_1013 dL_law_1014 (hin 3 (by decide)) ?_
  refine l_call hE (d := 2) (k := 0) [.int (xs (i + 1).toNatClampNeg), .int (xs (i + 2).toNatClampNeg), .int (xs (i + 3).toNatClampNeg)] dL_law_1015 mv_L_119 rfl rfl rfl (Nat.zero_le _) (by decide) hcs hsl (c_X10_sheet (o_sheet hI)) (fun x τ hK => ?_)
  refine l_al2 hE dL_law_1018 ?_
  refine l_arg hE dL_law_1019 dL_law_1020 dL_law_1021 (v := 1) (by decide) dL_law_1022 dL_law_1023 (hin 1 (by decide)) ?_
  refine l_arg hE dL_law_1024 dL_law_1025 dL_law_1026 (v := 2) (by decide) dL_law_1027 dL_law_1028 (hin 2 (by decide)) ?_
  refine l_arg hE dL_law_1029 dL_law_1030 dL_law_1031 (v := 3) (by decide) dL_law_1032 dL_law_1033 (hin 3 (by decide)) ?_
  refine l_call hE (d := 1) (k := 49) [.int (xs (i + 1).toNatClampNeg), .int (xs (i + 2).toNatClampNeg), .int (xs (i + 3).toNatClampNeg)] dL_law_1034 mv_L_122 rfl rfl rfl (show 1 ≤ 8 by decide) (by decide) hcs hsl (c_X11_sheet hK) (fun y ρ hN => ?_)
  exact l_eq hE dL_law_1037 (by decide) hN.1 (kk ρ hN.2)
set_option maxRecDepth 100000 in
theorem law_26 (hE : lE L p s m meth c b Ln xs) (hcs : cs ≤ 600000) (hsl : sl ≤ 7302250) (hI : Inv σ) (hin : ∀ v : Int32, v.toNatClampNeg ≤ 4 ∧ ¬ v < 0 → vp_in (i + v) Ln) (kk : ∀ τ, Inv τ → LW L p e s m below meth c b cs sl 1161 i [] τ) : LW L p e s m below meth c b cs sl 1042 i [] σ := by
  refine l_al1 hE dL_law_1042 ?_
  refine l_arg hE dL_law_1043 dL_law_1044 dL_law_1045 (v := 1) (by decide) dL_law_1046 dL_law_1047 (hin 1 (by decide)) ?_
  refine l_arg hE dL_law_1048 dL_law_1049 dL_law_1050 (v := 2) (by decide) dL_law_1051 dL_law_1052 (hin 2 (by decide)) ?_
  refine l_arg hE dL_law_1053 dL_law_1054 dL_law_1055 (v := 3) (by decide) dL_law_1056 dL_law_1057 (hin 3 (by decide)) ?_
  refine l_call hE (d := 2) (k := 0) [.int (xs (i + 1).toNatClampNeg), .int (xs (i + 2).toNatClampNeg), .int (xs (i + 3).toNatClampNeg)] dL_law_1058 mv_L_123 rfl rfl rfl (Nat.zero_le _) (by decide) hcs hsl (c_X10_lay (o_lay hI)) (fun x τ hK => ?_)
  refine l_al2 hE dL_law_1061 ?_
  refine l_arg hE dL_law_1062 dL_law_1063 dL_law_1064 (v := 1) (by decide) dL_law_1065 dL_law_1066 (hin 1 (by decide)) ?_
  refine l_arg hE dL_law_1067 dL_law_1068 dL_law_1069 (v := 2) (by decide) dL_law_1070 dL_law_1071 (hin 2 (by decide)) ?_
  refine l_arg hE dL_law_1072 dL_law_1073 dL_law_1074 (v := 3) (by decide) dL_law_1075 dL_law_1076 (hin 3 (by decide)) ?_
  refine l_call hE (d := 1) (k := 49) [.int (xs (i + 1).toNatClampNeg), .int (xs (i + 2).toNatClampNeg), .int (xs (i + 3).toNatClampNeg)] dL_law_1077 mv_L_126 rfl rfl rfl (show 1 ≤ 8 by decide) (by decide) hcs hsl (c_X11_lay hK) (fun y ρ hN => ?_)
  exact l_eq hE dL_law_1080 (by decide) hN.1 (kk ρ hN.2)
set_option maxRecDepth 100000 in
theorem law_27 (hE : lE L p s m meth c b Ln xs) (hcs : cs ≤ 600000) (hsl : sl ≤ 7302250) (hI : Inv σ) (hin : ∀ v : Int32, v.toNatClampNeg ≤ 4 ∧ ¬ v < 0 → vp_in (i + v) Ln) (kk : ∀ τ, Inv τ → LW L p e s m below meth c b cs sl 1161 i [] τ) : LW L p e s m below meth c b cs sl 1085 i [] σ := by
  refine l_al1 hE dL_law_1085 ?_
  refine l_arg hE dL_law_1086 dL_law_1087 dL_law_1088 (v := 1) (by decide) dL_law_1089 dL_law_1090 (hin 1 (by decide)) ?_
  refine l_arg hE dL_law_1091 dL_law_1092 dL_law_1093 (v := 2) (by decide) dL_law_1094 dL_law_1095 (hin 2 (by decide)) ?_
  refine l_arg hE dL_law_1096 dL_law_1097 dL_law_1098 (v := 3) (by decide) dL_law_1099 dL_law_1100 (hin 3 (by decide)) ?_
  refine l_arg hE dL_law_1101 dL_law_1102 dL_law_1103 (v := 4) (by decide) dL_law_1104 dL_law_1105 (hin 4 (by decide)) ?_
  refine l_call hE (d := 5) (k := 0) [.int (xs (i + 1).toNatClampNeg), .int (xs (i + 2).toNatClampNeg), .int (xs (i + 3).toNatClampNeg), .int (xs (i + 4).toNatClampNeg)] dL_law_1106 mv_L_127 rfl rfl rfl (Nat.zero_le _) (by decide) hcs hsl (c_X10_scan (o_scan hI)) (fun x τ hK => ?_)
  refine l_al2 hE dL_law_1109 ?_
  refine l_arg hE dL_law_1110 dL_law_1111 dL_law_1112 (v := 1) (by decide) dL_law_1113 dL_law_1114 (hin 1 (by decide)) ?_
  refine l_arg hE dL_law_1115 dL_law_1116 dL_law_1117 (v := 2) (by decide) dL_law_1118 dL_law_1119 (hin 2 (by decide)) ?_
  refine l_arg hE dL_law_1120 dL_law_1121 dL_law_1122 (v := 3) (by decide) dL_law_1123 dL_law_1124 (hin 3 (by decide)) ?_
  refine l_arg hE dL_law_1125 dL_law_1126 dL_law_1127 (v := 4) (by decide) dL_law_1128 dL_law_1129 (hin 4 (by decide)) ?_
  refine l_call hE (d := 3) (k := 49) [.int (xs (i + 1).toNatClampNeg), .int (xs (i + 2).toNatClampNeg), .int (xs (i + 3).toNatClampNeg), .int (xs (i + 4).toNatClampNeg)] dL_law_1130 mv_L_131 rfl rfl rfl (show 1 ≤ 8 by decide) (by decide) hcs hsl (c_X11_scan hK) (fun y ρ hN => ?_)
  exact l_eq hE dL_law_1133 (by decide) hN.1 (kk ρ hN.2)
set_option maxRecDepth 100000 in
theorem law_28 (hE : lE L p s m meth c b Ln xs) (hcs : cs ≤ 600000) (hsl : sl ≤ 7302250) (hI : Inv σ) (hin : ∀ v : Int32, v.toNatClampNeg ≤ 4 ∧ ¬ v < 0 → vp_in (i + v) Ln) (kk : ∀ τ, Inv τ → LW L p e s m below meth c b cs sl 1161 i [] τ) : LW L p e s m below meth c b cs sl 1138 i [] σ := by
  refine l_al1 hE dL_law_1138 ?_
  refine l_arg hE dL_law_1139 dL_law_1140 dL_law_1141 (v := 1) (by decide) dL_law_1142 dL_law_1143 (hin 1 (by decide)) ?_
  refine l_call hE (d := 4) (k := 0) [.int (xs (i + 1).toNatClampNeg)] dL_law_1144 mv_L_132 rfl rfl rfl (Nat.zero_le _) (by decide) hcs hsl (c_X10_count (o_count hI)) (fun x τ hK => ?_)
  refine l_al2 hE dL_law_1147 ?_
  refine l_arg hE dL_law_1148 dL_law_1149 dL_law_1150 (v := 1) (by decide) dL_law_1151 dL_law_1152 (hin 1 (by decide)) ?_
  refine l_call hE (d := 2) (k := 49) [.int (xs (i + 1).toNatClampNeg)] dL_law_1153 mv_L_135 rfl rfl rfl (show 1 ≤ 8 by decide) (by decide) hcs hsl (c_X11_count hK) (fun y ρ hN => ?_)
  exact l_eq hE dL_law_1156 (by decide) hN.1 (kk ρ hN.2)
theorem and31 (v : Int32) : ∃ k, k < 32 ∧ v &&& 31 = nI k := by
  have h0 : ¬ v &&& 31 < 0 := fun h => by
    have h2 : bt (v &&& 31) 31 = true := by
      rw [Int32.lt_iff_toInt_lt] at h
      have e : (0 : Int32).toInt = 0 := by decide
      rw [e] at h
      unfold bt
      have h3 := BitVec.msb_eq_toInt (x := (v &&& 31).toBitVec)
      rw [BitVec.msb_eq_getLsbD_last] at h3
      rw [show 32 - 1 = 31 from rfl] at h3
      rw [h3]
      exact decide_eq_true h
    rw [b_and, show bt 31 31 = false by decide, Bool.and_false] at h2
    cases h2
  obtain ⟨k, hk, e⟩ := nI_of h0
  refine ⟨k, Nat.lt_of_not_le (fun q => ?_), e⟩
  have key : ∀ j, 5 ≤ j → j < 31 → bt (nI k) j = false := fun j h1 h2 => by
    rw [← e, b_and, show bt 31 j = false from by
      have : ∀ j, j < 31 → 5 ≤ j → bt 31 j = false := by decide
      exact this j h2 h1, Bool.and_false]
  have h5 : k / 32 = 0 := by
    apply Nat.eq_of_testBit_eq
    intro j
    rw [Nat.zero_testBit]
    by_cases hj : j + 5 < 31
    · have := key (j + 5) (by omega) hj
      unfold bt at this
      have e2 : (nI k).toBitVec = BitVec.ofNat 32 k := rfl
      rw [e2, BitVec.getLsbD_ofNat] at this
      rw [show k / 32 = k >>> 5 from (Nat.shiftRight_eq_div_pow k 5).symm, Nat.testBit_shiftRight, Nat.add_comm 5 j]
      simpa [show j + 5 < 32 by omega] using this
    · exact Nat.testBit_lt_two_pow (Nat.lt_of_lt_of_le (show k / 32 < 2 ^ 26 by omega) (Nat.pow_le_pow_right (by decide) (by omega)))
  omega
set_option maxRecDepth 100000 in
theorem law_out (hE : lE L p s m meth c b Ln xs) (hL : Ln ≤ 2560) (hcs : cs ≤ 600000) (hsl : sl ≤ 7302250) {j : Nat} (hj : j ≤ Ln + 5) (hlt : ¬ j + 5 ≤ Ln) : LW L p e s m below meth c b cs sl 18 (nI j) [] σ := by
  intro H locs ls hP hD hS hl
  have hx := hE.1.1
  have hb := hE.1.2.1
  refine lv_iload_n hx hb dL_law_18 rfl (lv_at hl 3 rfl) ?_
  refine lv_aload_n hx hb dL_law_19 rfl (lv_at hl 0 rfl) ?_
  refine va_slen hx hb hE.1.2.2.2.2.2.2.1 hE.1.2.2.2.2.2.2.2.1 hE.bA hS dL_law_20 ?_
  refine lv_iconst (v := 5) hx hb dL_law_21 (by decide) ?_
  refine lv_isub hx hb dL_law_22 ?_
  refine lv_icmp_gt (tgt := 1167) hx hb dL_law_23 (by decide) (fun _ => ?_) (fun q => ?_)
  · refine lv_iconst (v := 1) hx hb dL_law_1167 (by decide) ?_
    refine va_forget (fun q hq => hE.2.2.2 _ (hS.2.2 q hq)) ?_
    refine W.widen (k := 600000) (n := 7302250) hcs hsl ?_
    exact lw_ret hx hb hE.1.2.2.1 hE.1.2.2.2.2.2.2.2.2.1 dL_law_1168
  · exfalso
    refine q (Int32.lt_iff_toInt_lt.mpr ?_)
    have e5 : (nI Ln - 5).toInt = (Ln : Int) - 5 := sub_i (M := 5) (by omega) (by decide)
    show (nI Ln - 5).toInt < (nI j).toInt
    rw [e5, nI_toInt (by omega)]
    omega
set_option maxRecDepth 100000 in
theorem law_loop (hE : lE L p s m meth c b Ln xs) (hL : Ln ≤ 2560) (hcs : cs ≤ 600000) (hsl : sl ≤ 7302250) : ∀ (n j : Nat) (σ : pw_Mem), j ≤ Ln + 5 → Ln < j + 5 * n → Inv σ → LW L p e s m below meth c b cs sl 18 (nI j) [] σ := by
  intro n
  induction n with
  | zero =>
    intro j σ hj hn hI
    exact law_out hE hL hcs hsl hj (by omega)
  | succ n ih =>
    intro j σ hj hn hI
    by_cases hlt : j + 5 ≤ Ln
    · intro H locs ls hP hD hS hl
      have hx := hE.1.1
      have hb := hE.1.2.1
      refine lv_iload_n hx hb dL_law_18 rfl (lv_at hl 3 rfl) ?_
      refine lv_aload_n hx hb dL_law_19 rfl (lv_at hl 0 rfl) ?_
      refine va_slen hx hb hE.1.2.2.2.2.2.2.1 hE.1.2.2.2.2.2.2.2.1 hE.bA hS dL_law_20 ?_
      refine lv_iconst (v := 5) hx hb dL_law_21 (by decide) ?_
      refine lv_isub hx hb dL_law_22 ?_
      refine lv_icmp_gt (tgt := 1167) hx hb dL_law_23 (by decide) (fun q => ?_) (fun _ => ?_)
      · exfalso
        have q2 := Int32.lt_iff_toInt_lt.mp q
        have e5 : (nI Ln - 5).toInt = (Ln : Int) - 5 := sub_i (M := 5) (by omega) (by decide)
        have q3 : (nI Ln - 5).toInt < (nI j).toInt := q2
        rw [e5, nI_toInt (by omega)] at q3
        omega
      · have hin : ∀ v : Int32, v.toNatClampNeg ≤ 4 ∧ ¬ v < 0 → vp_in (nI j + v) Ln := fun v hv => by
          obtain ⟨k, hk, rfl⟩ := nI_of hv.2
          have h4 := hv.1
          rw [cl_nI hk] at h4
          rw [nI_add]
          exact vp_in_nI (by omega) (by omega)
        have kk : ∀ τ, Inv τ → LW L p e s m below meth c b cs sl 1161 (nI j) [] τ := by
          intro τ hI2 H locs ls hP hD hS hl
          refine lv_iinc (v := nI (j + 5)) (lv' := [(3, .int (nI (j + 5))), (0, .ref b), (1, .ref (pw_ad L 0)), (2, .ref (pw_ad L 49))]) hx hb dL_law_1161 hl (k := 3) rfl (show nI j + 5 = nI (j + 5) from nI_add j 5) (by decide) rfl (fun ls hl => ?_)
          refine lv_goto (tgt := 18) hx hb dL_law_1164 (by decide) ?_
          exact ih (j + 5) τ (by omega) (by omega) hI2 H locs ls hP hD hS (lv_sub hl [1, 2, 3, 0] rfl)
        refine lv_aload_n hx hb dL_law_26 rfl (lv_at hl 0 rfl) ?_
        refine lv_iload_n hx hb dL_law_27 rfl (lv_at hl 3 rfl) ?_
        refine va_sld hx hb hE.1.2.2.2.2.2.2.1 hE.1.2.2.2.2.2.2.2.1 hE.bA hS (vp_in_nI (show j < Ln by omega) (by omega)) dL_law_28 ?_
        refine lv_bipush (v := 31) hx hb dL_law_29 (by decide) ?_
        refine lv_iand hx hb dL_law_31 ?_
        obtain ⟨k, hk, ek⟩ := and31 (xs (nI j).toNatClampNeg)
        rw [ek]
        match k, hk with
        | 0, _ => exact lv_tableIn hx hb dL_law_32 (by decide) (by decide) (off := 132) (by decide) (tgt := 164) (by decide) (law_0 hE hcs hsl hI hin kk H locs ls hP hD hS hl)
        | 1, _ => exact lv_tableIn hx hb dL_law_32 (by decide) (by decide) (off := 155) (by decide) (tgt := 187) (by decide) (law_1 hE hcs hsl hI hin kk H locs ls hP hD hS hl)
        | 2, _ => exact lv_tableIn hx hb dL_law_32 (by decide) (by decide) (off := 188) (by decide) (tgt := 220) (by decide) (law_2 hE hcs hsl hI hin kk H locs ls hP hD hS hl)
        | 3, _ => exact lv_tableIn hx hb dL_law_32 (by decide) (by decide) (off := 221) (by decide) (tgt := 253) (by decide) (law_3 hE hcs hsl hI hin kk H locs ls hP hD hS hl)
        | 4, _ => exact lv_tableIn hx hb dL_law_32 (by decide) (by decide) (off := 306) (by decide) (tgt := 338) (by decide) (law_4 hE hcs hsl hI hin kk H locs ls hP hD hS hl)
        | 5, _ => exact lv_tableIn hx hb dL_law_32 (by decide) (by decide) (off := 391) (by decide) (tgt := 423) (by decide) (law_5 hE hcs hsl hI hin kk H locs ls hP hD hS hl)
        | 6, _ => exact lv_tableIn hx hb dL_law_32 (by decide) (by decide) (off := 424) (by decide) (tgt := 456) (by decide) (law_6 hE hcs hsl hI hin kk H locs ls hP hD hS hl)
        | 7, _ => exact lv_tableIn hx hb dL_law_32 (by decide) (by decide) (off := 457) (by decide) (tgt := 489) (by decide) (law_7 hE hcs hsl hI hin kk H locs ls hP hD hS hl)
        | 8, _ => exact lv_tableIn hx hb dL_law_32 (by decide) (by decide) (off := 480) (by decide) (tgt := 512) (by decide) (law_8 hE hcs hsl hI hin kk H locs ls hP hD hS hl)
        | 9, _ => exact lv_tableIn hx hb dL_law_32 (by decide) (by decide) (off := 513) (by decide) (tgt := 545) (by decide) (law_9 hE hcs hsl hI hin kk H locs ls hP hD hS hl)
        | 10, _ => exact lv_tableIn hx hb dL_law_32 (by decide) (by decide) (off := 536) (by decide) (tgt := 568) (by decide) (law_10 hE hcs hsl hI hin kk H locs ls hP hD hS hl)
        | 11, _ => exact lv_tableIn hx hb dL_law_32 (by decide) (by decide) (off := 569) (by decide) (tgt := 601) (by decide) (law_11 hE hcs hsl hI hin kk H locs ls hP hD hS hl)
        | 12, _ => exact lv_tableIn hx hb dL_law_32 (by decide) (by decide) (off := 592) (by decide) (tgt := 624) (by decide) (law_12 hE hcs hsl hI hin kk H locs ls hP hD hS hl)
        | 13, _ => exact lv_tableIn hx hb dL_law_32 (by decide) (by decide) (off := 635) (by decide) (tgt := 667) (by decide) (law_13 hE hcs hsl hI hin kk H locs ls hP hD hS hl)
        | 14, _ => exact lv_tableIn hx hb dL_law_32 (by decide) (by decide) (off := 678) (by decide) (tgt := 710) (by decide) (law_14 hE hcs hsl hI hin kk H locs ls hP hD hS hl)
        | 15, _ => exact lv_tableIn hx hb dL_law_32 (by decide) (by decide) (off := 711) (by decide) (tgt := 743) (by decide) (law_15 hE hcs hsl hI hin kk H locs ls hP hD hS hl)
        | 16, _ => exact lv_tableIn hx hb dL_law_32 (by decide) (by decide) (off := 770) (by decide) (tgt := 802) (by decide) (law_16 hE hcs hsl hI hin kk H locs ls hP hD hS hl)
        | 17, _ => exact lv_tableIn hx hb dL_law_32 (by decide) (by decide) (off := 783) (by decide) (tgt := 815) (by decide) (law_17 hE hcs hsl hI hin kk H locs ls hP hD hS hl)
        | 18, _ => exact lv_tableIn hx hb dL_law_32 (by decide) (by decide) (off := 806) (by decide) (tgt := 838) (by decide) (law_18 hE hcs hsl hI hin kk H locs ls hP hD hS hl)
        | 19, _ => exact lv_tableIn hx hb dL_law_32 (by decide) (by decide) (off := 839) (by decide) (tgt := 871) (by decide) (law_19 hE hcs hsl hI hin kk H locs ls hP hD hS hl)
        | 20, _ => exact lv_tableIn hx hb dL_law_32 (by decide) (by decide) (off := 862) (by decide) (tgt := 894) (by decide) (law_20 hE hcs hsl hI hin kk H locs ls hP hD hS hl)
        | 21, _ => exact lv_tableIn hx hb dL_law_32 (by decide) (by decide) (off := 885) (by decide) (tgt := 917) (by decide) (law_21 hE hcs hsl hI hin kk H locs ls hP hD hS hl)
        | 22, _ => exact lv_tableIn hx hb dL_law_32 (by decide) (by decide) (off := 908) (by decide) (tgt := 940) (by decide) (law_22 hE hcs hsl hI hin kk H locs ls hP hD hS hl)
        | 23, _ => exact lv_tableIn hx hb dL_law_32 (by decide) (by decide) (off := 931) (by decide) (tgt := 963) (by decide) (law_23 hE hcs hsl hI hin kk H locs ls hP hD hS hl)
        | 24, _ => exact lv_tableIn hx hb dL_law_32 (by decide) (by decide) (off := 944) (by decide) (tgt := 976) (by decide) (law_24 hE hcs hsl hI hin kk H locs ls hP hD hS hl)
        | 25, _ => exact lv_tableIn hx hb dL_law_32 (by decide) (by decide) (off := 967) (by decide) (tgt := 999) (by decide) (law_25 hE hcs hsl hI hin kk H locs ls hP hD hS hl)
        | 26, _ => exact lv_tableIn hx hb dL_law_32 (by decide) (by decide) (off := 1010) (by decide) (tgt := 1042) (by decide) (law_26 hE hcs hsl hI hin kk H locs ls hP hD hS hl)
        | 27, _ => exact lv_tableIn hx hb dL_law_32 (by decide) (by decide) (off := 1053) (by decide) (tgt := 1085) (by decide) (law_27 hE hcs hsl hI hin kk H locs ls hP hD hS hl)
        | 28, _ => exact lv_tableIn hx hb dL_law_32 (by decide) (by decide) (off := 1106) (by decide) (tgt := 1138) (by decide) (law_28 hE hcs hsl hI hin kk H locs ls hP hD hS hl)
        | 29, _ => exact lv_tableOut hx hb dL_law_32 (by decide) (tgt := 1161) (by decide) (kk σ hI H locs ls hP hD hS hl)
        | 30, _ => exact lv_tableOut hx hb dL_law_32 (by decide) (tgt := 1161) (by decide) (kk σ hI H locs ls hP hD hS hl)
        | 31, _ => exact lv_tableOut hx hb dL_law_32 (by decide) (tgt := 1161) (by decide) (kk σ hI H locs ls hP hD hS hl)
        | k + 32, hk => exact absurd hk (by omega)
    · exact law_out hE hL hcs hsl hj (by omega)
end LAW
