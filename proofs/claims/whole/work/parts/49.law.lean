/-! the law's walk -/
theorem cmp_self (r : Int64) : lg_cmp r r = 0 := by
  unfold lg_cmp
  rw [if_neg (Int64.lt_irrefl), if_pos rfl]
/-- what holds all through the law -/
def LG (p : Program) (R : Room) (s : State) (m : MethodId) (args : Array Value) (c : Code) (D : va_G) (cs : aCs) (adC adM : aMp) (A : Nat → Prop) (b L : Nat) (xs : Nat → Int32) (cells slots : Nat) : Prop :=
  p.tables.exec = Jvm.exec ∧ c.code = code ∧ c.maxLocals = 4 ∧ s.vm.findClass RL = some m.cls ∧ (∀ w ∈ lw_tbl, w.before args s = true) ∧ va_X b L xs s s.heap ∧ b < s.heap.size ∧ ¬ A b ∧ va_K D vwCl (aTys cs) s ∧ aSt adC A s s.heap ∧ aSt adM A s s.heap ∧
  (∃ σ, va_D A (aWl LC cs adC σ)) ∧ (∃ σ, va_D A (aWl LM cs adM σ)) ∧ (∀ z, aDom LM adM z → ¬ aDom LC adC z) ∧ (∀ z, aDom LC adC z → ¬ aDom LM adM z) ∧ cells ≤ R.cells ∧ slots ≤ R.slots
def LZ (s : State) (D : va_G) (cs : aCs) (adC adM : aMp) (A : Nat → Prop) (b L : Nat) (σC σM : SS) (H : Heap) (locs : List Loc) (ls : Array Slot) (x3 : Int32) : Prop :=
  va_P D vwCl (aWl LC cs adC σC) H ∧ va_P D vwCl (aWl LM cs adM σM) H ∧ va_S A s.heap H locs ∧ lv_has ls 4 [(0, .ref b), (1, .ref (adC 0 0)), (2, .ref (adM 0 0)), (3, .int x3)] ∧ vp_in (x3 + 1) L ∧ vp_in (x3 + 2) L ∧ vp_in (x3 + 3) L ∧ vp_in (x3 + 4) L ∧ vp_in (x3 + 5) L
section LAWW
variable {p : Program} {l : Launch} {e : Env} {R : Room} {s : State} {m : MethodId} {args : Array Value} {below : List Frame} {meth : Method} {c : Code} {H : Heap} {locs : List Loc} {cells slots : Nat} {Q : State → Prop}
variable {ls : Array Slot} {D : va_G} {cs : aCs} {adC adM : aMp} {A : Nat → Prop} {b L : Nat} {xs : Nat → Int32} {σC σM σC1 σM1 : SS} {x3 : Int32}
set_option maxRecDepth 100000 in
set_option maxHeartbeats 4000000 in
theorem law_c0 (G : LG p R s m args c D cs adC adM A b L xs cells slots) (Z : LZ s D cs adC adM A b L σC σM H locs ls x3) {r : Int32} {d1 d2 : Nat} {a1 : Int32} (ha1 : xs (x3 + 1).toNatClampNeg = a1) {a2 : Int32} (ha2 : xs (x3 + 2).toNatClampNeg = a2) (hfC : d1 + 1 ≤ R.frames) (hlC : 64 * (d1 + 1) ≤ R.locals) (hfM : d2 + 1 ≤ R.frames) (hlM : 64 * (d2 + 1) ≤ R.locals) (C1 : XM LC d1 M_X10_place (aR 0 0 :: [aI a1, aI a2]) σC (some (aI r)) σC1) (C2 : XM LM d2 M_X11_place (aR 0 0 :: [aI a1, aI a2]) σM (some (aI r)) σM1)
    (kk : ∀ (H1 : Heap) (locs1 : List Loc), va_P D vwCl (aWl LC cs adC σC1) H1 → va_P D vwCl (aWl LM cs adM σM1) H1 → va_S A s.heap H1 locs1 → W p l e R s m args below meth c H1 locs1 cells slots Q (F0 m 1549 ls [])) :
    W p l e R s m args below meth c H locs cells slots Q (F0 m 216 ls []) := by
  obtain ⟨hx, hb, hml, hown, htl, hX, hbl, hbA, hK, hstC, hstM, ⟨τC, hDC0⟩, ⟨τM, hDM0⟩, hdisC, hdisM, hcc, hss⟩ := G
  have hDC := aWl_D (σ' := σC) hDC0
  have hDM := aWl_D (σ' := σM) hDM0
  have hts : ∀ w ∈ GW, w.before args s = true := fun w hw => htl w (List.mem_filter.mp hw).1
  obtain ⟨hPC, hPM, hS, hl, i1, i2, i3, i4, i5⟩ := Z
  refine lv_aload_n hx hb dL_216 rfl (lv_at hl 1 rfl) ?_
  refine lv_aload_n hx hb dL_217 rfl (lv_at hl 0 rfl) ?_
  refine lv_iload_n hx hb dL_218 rfl (lv_at hl 3 rfl) ?_
  refine lv_iconst (v := (1 : Int32)) hx hb dL_219 (by decide) ?_
  refine lv_iadd hx hb dL_220 ?_
  refine va_sld hx hb hX hbl hbA hS i1 dL_221 ?_
  rw [ha1]
  refine lv_aload_n hx hb dL_222 rfl (lv_at hl 0 rfl) ?_
  refine lv_iload_n hx hb dL_223 rfl (lv_at hl 3 rfl) ?_
  refine lv_iconst (v := (2 : Int32)) hx hb dL_224 (by decide) ?_
  refine lv_iadd hx hb dL_225 ?_
  refine va_sld hx hb hX hbl hbA hS i2 dL_226 ?_
  rw [ha2]
  refine law_call (Λ := LC) (Λ2 := LM) (ad := adC) (ad2 := adM) (σ2 := σM) (rest := []) (as := [aI a1, aI a2]) hx hb hml hown hts hK hstC hDC hdisC hfC hlC hcc hss C1 wV_X10_place wN_X10_place (GW_2 102 rfl rfl) rfl rfl rfl (by decide) rfl hPC hPM hS hl.1 (Nat.le_of_ble_eq_true rfl) dL_227 (fun H locs hPC hPM hS => ?_)
  refine lv_aload_n hx hb dL_230 rfl (lv_at hl 2 rfl) ?_
  refine lv_aload_n hx hb dL_231 rfl (lv_at hl 0 rfl) ?_
  refine lv_iload_n hx hb dL_232 rfl (lv_at hl 3 rfl) ?_
  refine lv_iconst (v := (1 : Int32)) hx hb dL_233 (by decide) ?_
  refine lv_iadd hx hb dL_234 ?_
  refine va_sld hx hb hX hbl hbA hS i1 dL_235 ?_
  rw [ha1]
  refine lv_aload_n hx hb dL_236 rfl (lv_at hl 0 rfl) ?_
  refine lv_iload_n hx hb dL_237 rfl (lv_at hl 3 rfl) ?_
  refine lv_iconst (v := (2 : Int32)) hx hb dL_238 (by decide) ?_
  refine lv_iadd hx hb dL_239 ?_
  refine va_sld hx hb hX hbl hbA hS i2 dL_240 ?_
  rw [ha2]
  refine law_call (Λ := LM) (Λ2 := LC) (ad := adM) (ad2 := adC) (σ2 := σC1) (rest := [.int r]) (as := [aI a1, aI a2]) hx hb hml hown hts hK hstM hDM hdisM hfM hlM hcc hss C2 wV_X11_place wN_X11_place (GW_5 133 rfl rfl) rfl rfl rfl (by decide) rfl hPM hPC hS hl.1 (Nat.le_of_ble_eq_true rfl) dL_241 (fun H locs hPM hPC hS => ?_)
  refine lv_icmp_eq (tgt := 1549) hx hb dL_244 rfl (fun _ => ?_) (fun h => absurd rfl h)
  exact kk _ _ hPC hPM hS
set_option maxRecDepth 100000 in
set_option maxHeartbeats 4000000 in
theorem law_c1 (G : LG p R s m args c D cs adC adM A b L xs cells slots) (Z : LZ s D cs adC adM A b L σC σM H locs ls x3) {r : Int32} {d1 d2 : Nat} {a1 : Int32} (ha1 : xs (x3 + 1).toNatClampNeg = a1) {a2 : Int32} (ha2 : xs (x3 + 2).toNatClampNeg = a2) {a3 : Int32} (ha3 : xs (x3 + 3).toNatClampNeg = a3) (hfC : d1 + 1 ≤ R.frames) (hlC : 64 * (d1 + 1) ≤ R.locals) (hfM : d2 + 1 ≤ R.frames) (hlM : 64 * (d2 + 1) ≤ R.locals) (C1 : XM LC d1 M_X10_places (aR 0 0 :: [aI a1, aI a2, aI a3]) σC (some (aI r)) σC1) (C2 : XM LM d2 M_X11_places (aR 0 0 :: [aI a1, aI a2, aI a3]) σM (some (aI r)) σM1)
    (kk : ∀ (H1 : Heap) (locs1 : List Loc), va_P D vwCl (aWl LC cs adC σC1) H1 → va_P D vwCl (aWl LM cs adM σM1) H1 → va_S A s.heap H1 locs1 → W p l e R s m args below meth c H1 locs1 cells slots Q (F0 m 1549 ls [])) :
    W p l e R s m args below meth c H locs cells slots Q (F0 m 249 ls []) := by
  obtain ⟨hx, hb, hml, hown, htl, hX, hbl, hbA, hK, hstC, hstM, ⟨τC, hDC0⟩, ⟨τM, hDM0⟩, hdisC, hdisM, hcc, hss⟩ := G
  have hDC := aWl_D (σ' := σC) hDC0
  have hDM := aWl_D (σ' := σM) hDM0
  have hts : ∀ w ∈ GW, w.before args s = true := fun w hw => htl w (List.mem_filter.mp hw).1
  obtain ⟨hPC, hPM, hS, hl, i1, i2, i3, i4, i5⟩ := Z
  refine lv_aload_n hx hb dL_249 rfl (lv_at hl 1 rfl) ?_
  refine lv_aload_n hx hb dL_250 rfl (lv_at hl 0 rfl) ?_
  refine lv_iload_n hx hb dL_251 rfl (lv_at hl 3 rfl) ?_
  refine lv_iconst (v := (1 : Int32)) hx hb dL_252 (by decide) ?_
  refine lv_iadd hx hb dL_253 ?_
  refine va_sld hx hb hX hbl hbA hS i1 dL_254 ?_
  rw [ha1]
  refine lv_aload_n hx hb dL_255 rfl (lv_at hl 0 rfl) ?_
  refine lv_iload_n hx hb dL_256 rfl (lv_at hl 3 rfl) ?_
  refine lv_iconst (v := (2 : Int32)) hx hb dL_257 (by decide) ?_
  refine lv_iadd hx hb dL_258 ?_
  refine va_sld hx hb hX hbl hbA hS i2 dL_259 ?_
  rw [ha2]
  refine lv_aload_n hx hb dL_260 rfl (lv_at hl 0 rfl) ?_
  refine lv_iload_n hx hb dL_261 rfl (lv_at hl 3 rfl) ?_
  refine lv_iconst (v := (3 : Int32)) hx hb dL_262 (by decide) ?_
  refine lv_iadd hx hb dL_263 ?_
  refine va_sld hx hb hX hbl hbA hS i3 dL_264 ?_
  rw [ha3]
  refine law_call (Λ := LC) (Λ2 := LM) (ad := adC) (ad2 := adM) (σ2 := σM) (rest := []) (as := [aI a1, aI a2, aI a3]) hx hb hml hown hts hK hstC hDC hdisC hfC hlC hcc hss C1 wV_X10_places wN_X10_places (GW_2 124 rfl rfl) rfl rfl rfl (by decide) rfl hPC hPM hS hl.1 (Nat.le_of_ble_eq_true rfl) dL_265 (fun H locs hPC hPM hS => ?_)
  refine lv_aload_n hx hb dL_268 rfl (lv_at hl 2 rfl) ?_
  refine lv_aload_n hx hb dL_269 rfl (lv_at hl 0 rfl) ?_
  refine lv_iload_n hx hb dL_270 rfl (lv_at hl 3 rfl) ?_
  refine lv_iconst (v := (1 : Int32)) hx hb dL_271 (by decide) ?_
  refine lv_iadd hx hb dL_272 ?_
  refine va_sld hx hb hX hbl hbA hS i1 dL_273 ?_
  rw [ha1]
  refine lv_aload_n hx hb dL_274 rfl (lv_at hl 0 rfl) ?_
  refine lv_iload_n hx hb dL_275 rfl (lv_at hl 3 rfl) ?_
  refine lv_iconst (v := (2 : Int32)) hx hb dL_276 (by decide) ?_
  refine lv_iadd hx hb dL_277 ?_
  refine va_sld hx hb hX hbl hbA hS i2 dL_278 ?_
  rw [ha2]
  refine lv_aload_n hx hb dL_279 rfl (lv_at hl 0 rfl) ?_
  refine lv_iload_n hx hb dL_280 rfl (lv_at hl 3 rfl) ?_
  refine lv_iconst (v := (3 : Int32)) hx hb dL_281 (by decide) ?_
  refine lv_iadd hx hb dL_282 ?_
  refine va_sld hx hb hX hbl hbA hS i3 dL_283 ?_
  rw [ha3]
  refine law_call (Λ := LM) (Λ2 := LC) (ad := adM) (ad2 := adC) (σ2 := σC1) (rest := [.int r]) (as := [aI a1, aI a2, aI a3]) hx hb hml hown hts hK hstM hDM hdisM hfM hlM hcc hss C2 wV_X11_places wN_X11_places (GW_5 150 rfl rfl) rfl rfl rfl (by decide) rfl hPM hPC hS hl.1 (Nat.le_of_ble_eq_true rfl) dL_284 (fun H locs hPM hPC hS => ?_)
  refine lv_icmp_eq (tgt := 1549) hx hb dL_287 rfl (fun _ => ?_) (fun h => absurd rfl h)
  exact kk _ _ hPC hPM hS
set_option maxRecDepth 100000 in
set_option maxHeartbeats 4000000 in
theorem law_c2 (G : LG p R s m args c D cs adC adM A b L xs cells slots) (Z : LZ s D cs adC adM A b L σC σM H locs ls x3) {r : Int32} {d1 d2 : Nat} {a1 : Int32} (ha1 : xs (x3 + 1).toNatClampNeg = a1) {a2 : Int32} (ha2 : xs (x3 + 2).toNatClampNeg = a2) {a3 : Int32} (ha3 : xs (x3 + 3).toNatClampNeg = a3) (hfC : d1 + 1 ≤ R.frames) (hlC : 64 * (d1 + 1) ≤ R.locals) (hfM : d2 + 1 ≤ R.frames) (hlM : 64 * (d2 + 1) ≤ R.locals) (C1 : XM LC d1 M_X10_mend (aR 0 0 :: [aI a1, aI a2, aI a3]) σC (some (aI r)) σC1) (C2 : XM LM d2 M_X11_mend (aR 0 0 :: [aI a1, aI a2, aI a3]) σM (some (aI r)) σM1)
    (kk : ∀ (H1 : Heap) (locs1 : List Loc), va_P D vwCl (aWl LC cs adC σC1) H1 → va_P D vwCl (aWl LM cs adM σM1) H1 → va_S A s.heap H1 locs1 → W p l e R s m args below meth c H1 locs1 cells slots Q (F0 m 1549 ls [])) :
    W p l e R s m args below meth c H locs cells slots Q (F0 m 292 ls []) := by
  obtain ⟨hx, hb, hml, hown, htl, hX, hbl, hbA, hK, hstC, hstM, ⟨τC, hDC0⟩, ⟨τM, hDM0⟩, hdisC, hdisM, hcc, hss⟩ := G
  have hDC := aWl_D (σ' := σC) hDC0
  have hDM := aWl_D (σ' := σM) hDM0
  have hts : ∀ w ∈ GW, w.before args s = true := fun w hw => htl w (List.mem_filter.mp hw).1
  obtain ⟨hPC, hPM, hS, hl, i1, i2, i3, i4, i5⟩ := Z
  refine lv_aload_n hx hb dL_292 rfl (lv_at hl 1 rfl) ?_
  refine lv_aload_n hx hb dL_293 rfl (lv_at hl 0 rfl) ?_
  refine lv_iload_n hx hb dL_294 rfl (lv_at hl 3 rfl) ?_
  refine lv_iconst (v := (1 : Int32)) hx hb dL_295 (by decide) ?_
  refine lv_iadd hx hb dL_296 ?_
  refine va_sld hx hb hX hbl hbA hS i1 dL_297 ?_
  rw [ha1]
  refine lv_aload_n hx hb dL_298 rfl (lv_at hl 0 rfl) ?_
  refine lv_iload_n hx hb dL_299 rfl (lv_at hl 3 rfl) ?_
  refine lv_iconst (v := (2 : Int32)) hx hb dL_300 (by decide) ?_
  refine lv_iadd hx hb dL_301 ?_
  refine va_sld hx hb hX hbl hbA hS i2 dL_302 ?_
  rw [ha2]
  refine lv_aload_n hx hb dL_303 rfl (lv_at hl 0 rfl) ?_
  refine lv_iload_n hx hb dL_304 rfl (lv_at hl 3 rfl) ?_
  refine lv_iconst (v := (3 : Int32)) hx hb dL_305 (by decide) ?_
  refine lv_iadd hx hb dL_306 ?_
  refine va_sld hx hb hX hbl hbA hS i3 dL_307 ?_
  rw [ha3]
  refine law_call (Λ := LC) (Λ2 := LM) (ad := adC) (ad2 := adM) (σ2 := σM) (rest := []) (as := [aI a1, aI a2, aI a3]) hx hb hml hown hts hK hstC hDC hdisC hfC hlC hcc hss C1 wV_X10_mend wN_X10_mend (GW_2 152 rfl rfl) rfl rfl rfl (by decide) rfl hPC hPM hS hl.1 (Nat.le_of_ble_eq_true rfl) dL_308 (fun H locs hPC hPM hS => ?_)
  refine lv_aload_n hx hb dL_311 rfl (lv_at hl 2 rfl) ?_
  refine lv_aload_n hx hb dL_312 rfl (lv_at hl 0 rfl) ?_
  refine lv_iload_n hx hb dL_313 rfl (lv_at hl 3 rfl) ?_
  refine lv_iconst (v := (1 : Int32)) hx hb dL_314 (by decide) ?_
  refine lv_iadd hx hb dL_315 ?_
  refine va_sld hx hb hX hbl hbA hS i1 dL_316 ?_
  rw [ha1]
  refine lv_aload_n hx hb dL_317 rfl (lv_at hl 0 rfl) ?_
  refine lv_iload_n hx hb dL_318 rfl (lv_at hl 3 rfl) ?_
  refine lv_iconst (v := (2 : Int32)) hx hb dL_319 (by decide) ?_
  refine lv_iadd hx hb dL_320 ?_
  refine va_sld hx hb hX hbl hbA hS i2 dL_321 ?_
  rw [ha2]
  refine lv_aload_n hx hb dL_322 rfl (lv_at hl 0 rfl) ?_
  refine lv_iload_n hx hb dL_323 rfl (lv_at hl 3 rfl) ?_
  refine lv_iconst (v := (3 : Int32)) hx hb dL_324 (by decide) ?_
  refine lv_iadd hx hb dL_325 ?_
  refine va_sld hx hb hX hbl hbA hS i3 dL_326 ?_
  rw [ha3]
  refine law_call (Λ := LM) (Λ2 := LC) (ad := adM) (ad2 := adC) (σ2 := σC1) (rest := [.int r]) (as := [aI a1, aI a2, aI a3]) hx hb hml hown hts hK hstM hDM hdisM hfM hlM hcc hss C2 wV_X11_mend wN_X11_mend (GW_5 158 rfl rfl) rfl rfl rfl (by decide) rfl hPM hPC hS hl.1 (Nat.le_of_ble_eq_true rfl) dL_327 (fun H locs hPM hPC hS => ?_)
  refine lv_icmp_eq (tgt := 1549) hx hb dL_330 rfl (fun _ => ?_) (fun h => absurd rfl h)
  exact kk _ _ hPC hPM hS
set_option maxRecDepth 100000 in
set_option maxHeartbeats 4000000 in
theorem law_c3 (G : LG p R s m args c D cs adC adM A b L xs cells slots) (Z : LZ s D cs adC adM A b L σC σM H locs ls x3) {r : Int32} {d1 d2 : Nat} {a1 : Int32} (ha1 : xs (x3 + 1).toNatClampNeg = a1) {a2 : Int32} (ha2 : xs (x3 + 2).toNatClampNeg = a2) (hfC : d1 + 1 ≤ R.frames) (hlC : 64 * (d1 + 1) ≤ R.locals) (hfM : d2 + 1 ≤ R.frames) (hlM : 64 * (d2 + 1) ≤ R.locals) (C1 : XM LC d1 M_X10_of (aR 0 0 :: [aI a1, aI a2]) σC (some (aI r)) σC1) (C2 : XM LM d2 M_X11_of (aR 0 0 :: [aI a1, aI a2]) σM (some (aI r)) σM1)
    (kk : ∀ (H1 : Heap) (locs1 : List Loc), va_P D vwCl (aWl LC cs adC σC1) H1 → va_P D vwCl (aWl LM cs adM σM1) H1 → va_S A s.heap H1 locs1 → W p l e R s m args below meth c H1 locs1 cells slots Q (F0 m 1549 ls [])) :
    W p l e R s m args below meth c H locs cells slots Q (F0 m 335 ls []) := by
  obtain ⟨hx, hb, hml, hown, htl, hX, hbl, hbA, hK, hstC, hstM, ⟨τC, hDC0⟩, ⟨τM, hDM0⟩, hdisC, hdisM, hcc, hss⟩ := G
  have hDC := aWl_D (σ' := σC) hDC0
  have hDM := aWl_D (σ' := σM) hDM0
  have hts : ∀ w ∈ GW, w.before args s = true := fun w hw => htl w (List.mem_filter.mp hw).1
  obtain ⟨hPC, hPM, hS, hl, i1, i2, i3, i4, i5⟩ := Z
  refine lv_aload_n hx hb dL_335 rfl (lv_at hl 1 rfl) ?_
  refine lv_aload_n hx hb dL_336 rfl (lv_at hl 0 rfl) ?_
  refine lv_iload_n hx hb dL_337 rfl (lv_at hl 3 rfl) ?_
  refine lv_iconst (v := (1 : Int32)) hx hb dL_338 (by decide) ?_
  refine lv_iadd hx hb dL_339 ?_
  refine va_sld hx hb hX hbl hbA hS i1 dL_340 ?_
  rw [ha1]
  refine lv_aload_n hx hb dL_341 rfl (lv_at hl 0 rfl) ?_
  refine lv_iload_n hx hb dL_342 rfl (lv_at hl 3 rfl) ?_
  refine lv_iconst (v := (2 : Int32)) hx hb dL_343 (by decide) ?_
  refine lv_iadd hx hb dL_344 ?_
  refine va_sld hx hb hX hbl hbA hS i2 dL_345 ?_
  rw [ha2]
  refine law_call (Λ := LC) (Λ2 := LM) (ad := adC) (ad2 := adM) (σ2 := σM) (rest := []) (as := [aI a1, aI a2]) hx hb hml hown hts hK hstC hDC hdisC hfC hlC hcc hss C1 wV_X10_of wN_X10_of (GW_2 181 rfl rfl) rfl rfl rfl (by decide) rfl hPC hPM hS hl.1 (Nat.le_of_ble_eq_true rfl) dL_346 (fun H locs hPC hPM hS => ?_)
  refine lv_aload_n hx hb dL_349 rfl (lv_at hl 2 rfl) ?_
  refine lv_aload_n hx hb dL_350 rfl (lv_at hl 0 rfl) ?_
  refine lv_iload_n hx hb dL_351 rfl (lv_at hl 3 rfl) ?_
  refine lv_iconst (v := (1 : Int32)) hx hb dL_352 (by decide) ?_
  refine lv_iadd hx hb dL_353 ?_
  refine va_sld hx hb hX hbl hbA hS i1 dL_354 ?_
  rw [ha1]
  refine lv_aload_n hx hb dL_355 rfl (lv_at hl 0 rfl) ?_
  refine lv_iload_n hx hb dL_356 rfl (lv_at hl 3 rfl) ?_
  refine lv_iconst (v := (2 : Int32)) hx hb dL_357 (by decide) ?_
  refine lv_iadd hx hb dL_358 ?_
  refine va_sld hx hb hX hbl hbA hS i2 dL_359 ?_
  rw [ha2]
  refine law_call (Λ := LM) (Λ2 := LC) (ad := adM) (ad2 := adC) (σ2 := σC1) (rest := [.int r]) (as := [aI a1, aI a2]) hx hb hml hown hts hK hstM hDM hdisM hfM hlM hcc hss C2 wV_X11_of wN_X11_of (GW_5 187 rfl rfl) rfl rfl rfl (by decide) rfl hPM hPC hS hl.1 (Nat.le_of_ble_eq_true rfl) dL_360 (fun H locs hPM hPC hS => ?_)
  refine lv_icmp_eq (tgt := 1549) hx hb dL_363 rfl (fun _ => ?_) (fun h => absurd rfl h)
  exact kk _ _ hPC hPM hS
set_option maxRecDepth 100000 in
set_option maxHeartbeats 4000000 in
theorem law_c4 (G : LG p R s m args c D cs adC adM A b L xs cells slots) (Z : LZ s D cs adC adM A b L σC σM H locs ls x3) {r : Int32} {d1 d2 : Nat} {a1 : Int32} (ha1 : xs (x3 + 1).toNatClampNeg = a1) {a2 : Int32} (ha2 : xs (x3 + 2).toNatClampNeg = a2) (hfC : d1 + 1 ≤ R.frames) (hlC : 64 * (d1 + 1) ≤ R.locals) (hfM : d2 + 1 ≤ R.frames) (hlM : 64 * (d2 + 1) ≤ R.locals) (C1 : XM LC d1 M_X10_wind (aR 0 0 :: [aI a1, aI a2]) σC (some (aI r)) σC1) (C2 : XM LM d2 M_X11_wind (aR 0 0 :: [aI a1, aI a2]) σM (some (aI r)) σM1)
    (kk : ∀ (H1 : Heap) (locs1 : List Loc), va_P D vwCl (aWl LC cs adC σC1) H1 → va_P D vwCl (aWl LM cs adM σM1) H1 → va_S A s.heap H1 locs1 → W p l e R s m args below meth c H1 locs1 cells slots Q (F0 m 1549 ls [])) :
    W p l e R s m args below meth c H locs cells slots Q (F0 m 368 ls []) := by
  obtain ⟨hx, hb, hml, hown, htl, hX, hbl, hbA, hK, hstC, hstM, ⟨τC, hDC0⟩, ⟨τM, hDM0⟩, hdisC, hdisM, hcc, hss⟩ := G
  have hDC := aWl_D (σ' := σC) hDC0
  have hDM := aWl_D (σ' := σM) hDM0
  have hts : ∀ w ∈ GW, w.before args s = true := fun w hw => htl w (List.mem_filter.mp hw).1
  obtain ⟨hPC, hPM, hS, hl, i1, i2, i3, i4, i5⟩ := Z
  refine lv_aload_n hx hb dL_368 rfl (lv_at hl 1 rfl) ?_
  refine lv_aload_n hx hb dL_369 rfl (lv_at hl 0 rfl) ?_
  refine lv_iload_n hx hb dL_370 rfl (lv_at hl 3 rfl) ?_
  refine lv_iconst (v := (1 : Int32)) hx hb dL_371 (by decide) ?_
  refine lv_iadd hx hb dL_372 ?_
  refine va_sld hx hb hX hbl hbA hS i1 dL_373 ?_
  rw [ha1]
  refine lv_aload_n hx hb dL_374 rfl (lv_at hl 0 rfl) ?_
  refine lv_iload_n hx hb dL_375 rfl (lv_at hl 3 rfl) ?_
  refine lv_iconst (v := (2 : Int32)) hx hb dL_376 (by decide) ?_
  refine lv_iadd hx hb dL_377 ?_
  refine va_sld hx hb hX hbl hbA hS i2 dL_378 ?_
  rw [ha2]
  refine law_call (Λ := LC) (Λ2 := LM) (ad := adC) (ad2 := adM) (σ2 := σM) (rest := []) (as := [aI a1, aI a2]) hx hb hml hown hts hK hstC hDC hdisC hfC hlC hcc hss C1 wV_X10_wind wN_X10_wind (GW_2 185 rfl rfl) rfl rfl rfl (by decide) rfl hPC hPM hS hl.1 (Nat.le_of_ble_eq_true rfl) dL_379 (fun H locs hPC hPM hS => ?_)
  refine lv_aload_n hx hb dL_382 rfl (lv_at hl 2 rfl) ?_
  refine lv_aload_n hx hb dL_383 rfl (lv_at hl 0 rfl) ?_
  refine lv_iload_n hx hb dL_384 rfl (lv_at hl 3 rfl) ?_
  refine lv_iconst (v := (1 : Int32)) hx hb dL_385 (by decide) ?_
  refine lv_iadd hx hb dL_386 ?_
  refine va_sld hx hb hX hbl hbA hS i1 dL_387 ?_
  rw [ha1]
  refine lv_aload_n hx hb dL_388 rfl (lv_at hl 0 rfl) ?_
  refine lv_iload_n hx hb dL_389 rfl (lv_at hl 3 rfl) ?_
  refine lv_iconst (v := (2 : Int32)) hx hb dL_390 (by decide) ?_
  refine lv_iadd hx hb dL_391 ?_
  refine va_sld hx hb hX hbl hbA hS i2 dL_392 ?_
  rw [ha2]
  refine law_call (Λ := LM) (Λ2 := LC) (ad := adM) (ad2 := adC) (σ2 := σC1) (rest := [.int r]) (as := [aI a1, aI a2]) hx hb hml hown hts hK hstM hDM hdisM hfM hlM hcc hss C2 wV_X11_wind wN_X11_wind (GW_5 191 rfl rfl) rfl rfl rfl (by decide) rfl hPM hPC hS hl.1 (Nat.le_of_ble_eq_true rfl) dL_393 (fun H locs hPM hPC hS => ?_)
  refine lv_icmp_eq (tgt := 1549) hx hb dL_396 rfl (fun _ => ?_) (fun h => absurd rfl h)
  exact kk _ _ hPC hPM hS
set_option maxRecDepth 100000 in
set_option maxHeartbeats 4000000 in
theorem law_c5 (G : LG p R s m args c D cs adC adM A b L xs cells slots) (Z : LZ s D cs adC adM A b L σC σM H locs ls x3) {r : Int32} {d1 d2 : Nat} {a1 : Int32} (ha1 : xs (x3 + 1).toNatClampNeg = a1) (hfC : d1 + 1 ≤ R.frames) (hlC : 64 * (d1 + 1) ≤ R.locals) (hfM : d2 + 1 ≤ R.frames) (hlM : 64 * (d2 + 1) ≤ R.locals) (C1 : XM LC d1 M_X10_feed (aR 0 0 :: [aI a1]) σC (some (aI r)) σC1) (C2 : XM LM d2 M_X11_feed (aR 0 0 :: [aI a1]) σM (some (aI r)) σM1)
    (kk : ∀ (H1 : Heap) (locs1 : List Loc), va_P D vwCl (aWl LC cs adC σC1) H1 → va_P D vwCl (aWl LM cs adM σM1) H1 → va_S A s.heap H1 locs1 → W p l e R s m args below meth c H1 locs1 cells slots Q (F0 m 1549 ls [])) :
    W p l e R s m args below meth c H locs cells slots Q (F0 m 401 ls []) := by
  obtain ⟨hx, hb, hml, hown, htl, hX, hbl, hbA, hK, hstC, hstM, ⟨τC, hDC0⟩, ⟨τM, hDM0⟩, hdisC, hdisM, hcc, hss⟩ := G
  have hDC := aWl_D (σ' := σC) hDC0
  have hDM := aWl_D (σ' := σM) hDM0
  have hts : ∀ w ∈ GW, w.before args s = true := fun w hw => htl w (List.mem_filter.mp hw).1
  obtain ⟨hPC, hPM, hS, hl, i1, i2, i3, i4, i5⟩ := Z
  refine lv_aload_n hx hb dL_401 rfl (lv_at hl 1 rfl) ?_
  refine lv_aload_n hx hb dL_402 rfl (lv_at hl 0 rfl) ?_
  refine lv_iload_n hx hb dL_403 rfl (lv_at hl 3 rfl) ?_
  refine lv_iconst (v := (1 : Int32)) hx hb dL_404 (by decide) ?_
  refine lv_iadd hx hb dL_405 ?_
  refine va_sld hx hb hX hbl hbA hS i1 dL_406 ?_
  rw [ha1]
  refine law_call (Λ := LC) (Λ2 := LM) (ad := adC) (ad2 := adM) (σ2 := σM) (rest := []) (as := [aI a1]) hx hb hml hown hts hK hstC hDC hdisC hfC hlC hcc hss C1 wV_X10_feed wN_X10_feed (GW_2 202 rfl rfl) rfl rfl rfl (by decide) rfl hPC hPM hS hl.1 (Nat.le_of_ble_eq_true rfl) dL_407 (fun H locs hPC hPM hS => ?_)
  refine lv_aload_n hx hb dL_410 rfl (lv_at hl 2 rfl) ?_
  refine lv_aload_n hx hb dL_411 rfl (lv_at hl 0 rfl) ?_
  refine lv_iload_n hx hb dL_412 rfl (lv_at hl 3 rfl) ?_
  refine lv_iconst (v := (1 : Int32)) hx hb dL_413 (by decide) ?_
  refine lv_iadd hx hb dL_414 ?_
  refine va_sld hx hb hX hbl hbA hS i1 dL_415 ?_
  rw [ha1]
  refine law_call (Λ := LM) (Λ2 := LC) (ad := adM) (ad2 := adC) (σ2 := σC1) (rest := [.int r]) (as := [aI a1]) hx hb hml hown hts hK hstM hDM hdisM hfM hlM hcc hss C2 wV_X11_feed wN_X11_feed (GW_5 200 rfl rfl) rfl rfl rfl (by decide) rfl hPM hPC hS hl.1 (Nat.le_of_ble_eq_true rfl) dL_416 (fun H locs hPM hPC hS => ?_)
  refine lv_icmp_eq (tgt := 1549) hx hb dL_419 rfl (fun _ => ?_) (fun h => absurd rfl h)
  exact kk _ _ hPC hPM hS
set_option maxRecDepth 100000 in
set_option maxHeartbeats 4000000 in
theorem law_c6 (G : LG p R s m args c D cs adC adM A b L xs cells slots) (Z : LZ s D cs adC adM A b L σC σM H locs ls x3) {r : Int32} {d1 d2 : Nat} (hfC : d1 + 1 ≤ R.frames) (hlC : 64 * (d1 + 1) ≤ R.locals) (hfM : d2 + 1 ≤ R.frames) (hlM : 64 * (d2 + 1) ≤ R.locals) (C1 : XM LC d1 M_X10_law (aR 0 0 :: []) σC (some (aI r)) σC1) (C2 : XM LM d2 M_X11_law (aR 0 0 :: []) σM (some (aI r)) σM1)
    (kk : ∀ (H1 : Heap) (locs1 : List Loc), va_P D vwCl (aWl LC cs adC σC1) H1 → va_P D vwCl (aWl LM cs adM σM1) H1 → va_S A s.heap H1 locs1 → W p l e R s m args below meth c H1 locs1 cells slots Q (F0 m 1549 ls [])) :
    W p l e R s m args below meth c H locs cells slots Q (F0 m 424 ls []) := by
  obtain ⟨hx, hb, hml, hown, htl, hX, hbl, hbA, hK, hstC, hstM, ⟨τC, hDC0⟩, ⟨τM, hDM0⟩, hdisC, hdisM, hcc, hss⟩ := G
  have hDC := aWl_D (σ' := σC) hDC0
  have hDM := aWl_D (σ' := σM) hDM0
  have hts : ∀ w ∈ GW, w.before args s = true := fun w hw => htl w (List.mem_filter.mp hw).1
  obtain ⟨hPC, hPM, hS, hl, i1, i2, i3, i4, i5⟩ := Z
  refine lv_aload_n hx hb dL_424 rfl (lv_at hl 1 rfl) ?_
  refine law_call (Λ := LC) (Λ2 := LM) (ad := adC) (ad2 := adM) (σ2 := σM) (rest := []) (as := []) hx hb hml hown hts hK hstC hDC hdisC hfC hlC hcc hss C1 wV_X10_law wN_X10_law (GW_2 210 rfl rfl) rfl rfl rfl (by decide) rfl hPC hPM hS hl.1 (Nat.le_of_ble_eq_true rfl) dL_425 (fun H locs hPC hPM hS => ?_)
  refine lv_aload_n hx hb dL_428 rfl (lv_at hl 2 rfl) ?_
  refine law_call (Λ := LM) (Λ2 := LC) (ad := adM) (ad2 := adC) (σ2 := σC1) (rest := [.int r]) (as := []) hx hb hml hown hts hK hstM hDM hdisM hfM hlM hcc hss C2 wV_X11_law wN_X11_law (GW_5 205 rfl rfl) rfl rfl rfl (by decide) rfl hPM hPC hS hl.1 (Nat.le_of_ble_eq_true rfl) dL_429 (fun H locs hPM hPC hS => ?_)
  refine lv_icmp_eq (tgt := 1549) hx hb dL_432 rfl (fun _ => ?_) (fun h => absurd rfl h)
  exact kk _ _ hPC hPM hS
set_option maxRecDepth 100000 in
set_option maxHeartbeats 4000000 in
theorem law_c7 (G : LG p R s m args c D cs adC adM A b L xs cells slots) (Z : LZ s D cs adC adM A b L σC σM H locs ls x3) {r : Int32} {d1 d2 : Nat} {a1 : Int32} (ha1 : xs (x3 + 1).toNatClampNeg = a1) {a2 : Int32} (ha2 : xs (x3 + 2).toNatClampNeg = a2) (hfC : d1 + 1 ≤ R.frames) (hlC : 64 * (d1 + 1) ≤ R.locals) (hfM : d2 + 1 ≤ R.frames) (hlM : 64 * (d2 + 1) ≤ R.locals) (C1 : XM LC d1 M_X10_strain (aR 0 0 :: [aI a1, aI a2]) σC (some (aI r)) σC1) (C2 : XM LM d2 M_X11_strain (aR 0 0 :: [aI a1, aI a2]) σM (some (aI r)) σM1)
    (kk : ∀ (H1 : Heap) (locs1 : List Loc), va_P D vwCl (aWl LC cs adC σC1) H1 → va_P D vwCl (aWl LM cs adM σM1) H1 → va_S A s.heap H1 locs1 → W p l e R s m args below meth c H1 locs1 cells slots Q (F0 m 1549 ls [])) :
    W p l e R s m args below meth c H locs cells slots Q (F0 m 437 ls []) := by
  obtain ⟨hx, hb, hml, hown, htl, hX, hbl, hbA, hK, hstC, hstM, ⟨τC, hDC0⟩, ⟨τM, hDM0⟩, hdisC, hdisM, hcc, hss⟩ := G
  have hDC := aWl_D (σ' := σC) hDC0
  have hDM := aWl_D (σ' := σM) hDM0
  have hts : ∀ w ∈ GW, w.before args s = true := fun w hw => htl w (List.mem_filter.mp hw).1
  obtain ⟨hPC, hPM, hS, hl, i1, i2, i3, i4, i5⟩ := Z
  refine lv_aload_n hx hb dL_437 rfl (lv_at hl 1 rfl) ?_
  refine lv_aload_n hx hb dL_438 rfl (lv_at hl 0 rfl) ?_
  refine lv_iload_n hx hb dL_439 rfl (lv_at hl 3 rfl) ?_
  refine lv_iconst (v := (1 : Int32)) hx hb dL_440 (by decide) ?_
  refine lv_iadd hx hb dL_441 ?_
  refine va_sld hx hb hX hbl hbA hS i1 dL_442 ?_
  rw [ha1]
  refine lv_aload_n hx hb dL_443 rfl (lv_at hl 0 rfl) ?_
  refine lv_iload_n hx hb dL_444 rfl (lv_at hl 3 rfl) ?_
  refine lv_iconst (v := (2 : Int32)) hx hb dL_445 (by decide) ?_
  refine lv_iadd hx hb dL_446 ?_
  refine va_sld hx hb hX hbl hbA hS i2 dL_447 ?_
  rw [ha2]
  refine law_call (Λ := LC) (Λ2 := LM) (ad := adC) (ad2 := adM) (σ2 := σM) (rest := []) (as := [aI a1, aI a2]) hx hb hml hown hts hK hstC hDC hdisC hfC hlC hcc hss C1 wV_X10_strain wN_X10_strain (GW_3 12 rfl rfl) rfl rfl rfl (by decide) rfl hPC hPM hS hl.1 (Nat.le_of_ble_eq_true rfl) dL_448 (fun H locs hPC hPM hS => ?_)
  refine lv_aload_n hx hb dL_451 rfl (lv_at hl 2 rfl) ?_
  refine lv_aload_n hx hb dL_452 rfl (lv_at hl 0 rfl) ?_
  refine lv_iload_n hx hb dL_453 rfl (lv_at hl 3 rfl) ?_
  refine lv_iconst (v := (1 : Int32)) hx hb dL_454 (by decide) ?_
  refine lv_iadd hx hb dL_455 ?_
  refine va_sld hx hb hX hbl hbA hS i1 dL_456 ?_
  rw [ha1]
  refine lv_aload_n hx hb dL_457 rfl (lv_at hl 0 rfl) ?_
  refine lv_iload_n hx hb dL_458 rfl (lv_at hl 3 rfl) ?_
  refine lv_iconst (v := (2 : Int32)) hx hb dL_459 (by decide) ?_
  refine lv_iadd hx hb dL_460 ?_
  refine va_sld hx hb hX hbl hbA hS i2 dL_461 ?_
  rw [ha2]
  refine law_call (Λ := LM) (Λ2 := LC) (ad := adM) (ad2 := adC) (σ2 := σC1) (rest := [.int r]) (as := [aI a1, aI a2]) hx hb hml hown hts hK hstM hDM hdisM hfM hlM hcc hss C2 wV_X11_strain wN_X11_strain (GW_6 12 rfl rfl) rfl rfl rfl (by decide) rfl hPM hPC hS hl.1 (Nat.le_of_ble_eq_true rfl) dL_462 (fun H locs hPM hPC hS => ?_)
  refine lv_icmp_eq (tgt := 1549) hx hb dL_465 rfl (fun _ => ?_) (fun h => absurd rfl h)
  exact kk _ _ hPC hPM hS
set_option maxRecDepth 100000 in
set_option maxHeartbeats 4000000 in
theorem law_c8 (G : LG p R s m args c D cs adC adM A b L xs cells slots) (Z : LZ s D cs adC adM A b L σC σM H locs ls x3) {r : Int32} {d1 d2 : Nat} {a1 : Int32} (ha1 : xs (x3 + 1).toNatClampNeg = a1) {a2 : Int32} (ha2 : xs (x3 + 2).toNatClampNeg = a2) {a3 : Int32} (ha3 : xs (x3 + 3).toNatClampNeg = a3) (hfC : d1 + 1 ≤ R.frames) (hlC : 64 * (d1 + 1) ≤ R.locals) (hfM : d2 + 1 ≤ R.frames) (hlM : 64 * (d2 + 1) ≤ R.locals) (C1 : XM LC d1 M_X10_walk (aR 0 0 :: [aI a1, aI a2, aI a3]) σC (some (aI r)) σC1) (C2 : XM LM d2 M_X11_walk (aR 0 0 :: [aI a1, aI a2, aI a3]) σM (some (aI r)) σM1)
    (kk : ∀ (H1 : Heap) (locs1 : List Loc), va_P D vwCl (aWl LC cs adC σC1) H1 → va_P D vwCl (aWl LM cs adM σM1) H1 → va_S A s.heap H1 locs1 → W p l e R s m args below meth c H1 locs1 cells slots Q (F0 m 1549 ls [])) :
    W p l e R s m args below meth c H locs cells slots Q (F0 m 470 ls []) := by
  obtain ⟨hx, hb, hml, hown, htl, hX, hbl, hbA, hK, hstC, hstM, ⟨τC, hDC0⟩, ⟨τM, hDM0⟩, hdisC, hdisM, hcc, hss⟩ := G
  have hDC := aWl_D (σ' := σC) hDC0
  have hDM := aWl_D (σ' := σM) hDM0
  have hts : ∀ w ∈ GW, w.before args s = true := fun w hw => htl w (List.mem_filter.mp hw).1
  obtain ⟨hPC, hPM, hS, hl, i1, i2, i3, i4, i5⟩ := Z
  refine lv_aload_n hx hb dL_470 rfl (lv_at hl 1 rfl) ?_
  refine lv_aload_n hx hb dL_471 rfl (lv_at hl 0 rfl) ?_
  refine lv_iload_n hx hb dL_472 rfl (lv_at hl 3 rfl) ?_
  refine lv_iconst (v := (1 : Int32)) hx hb dL_473 (by decide) ?_
  refine lv_iadd hx hb dL_474 ?_
  refine va_sld hx hb hX hbl hbA hS i1 dL_475 ?_
  rw [ha1]
  refine lv_aload_n hx hb dL_476 rfl (lv_at hl 0 rfl) ?_
  refine lv_iload_n hx hb dL_477 rfl (lv_at hl 3 rfl) ?_
  refine lv_iconst (v := (2 : Int32)) hx hb dL_478 (by decide) ?_
  refine lv_iadd hx hb dL_479 ?_
  refine va_sld hx hb hX hbl hbA hS i2 dL_480 ?_
  rw [ha2]
  refine lv_aload_n hx hb dL_481 rfl (lv_at hl 0 rfl) ?_
  refine lv_iload_n hx hb dL_482 rfl (lv_at hl 3 rfl) ?_
  refine lv_iconst (v := (3 : Int32)) hx hb dL_483 (by decide) ?_
  refine lv_iadd hx hb dL_484 ?_
  refine va_sld hx hb hX hbl hbA hS i3 dL_485 ?_
  rw [ha3]
  refine law_call (Λ := LC) (Λ2 := LM) (ad := adC) (ad2 := adM) (σ2 := σM) (rest := []) (as := [aI a1, aI a2, aI a3]) hx hb hml hown hts hK hstC hDC hdisC hfC hlC hcc hss C1 wV_X10_walk wN_X10_walk (GW_3 65 rfl rfl) rfl rfl rfl (by decide) rfl hPC hPM hS hl.1 (Nat.le_of_ble_eq_true rfl) dL_486 (fun H locs hPC hPM hS => ?_)
  refine lv_aload_n hx hb dL_489 rfl (lv_at hl 2 rfl) ?_
  refine lv_aload_n hx hb dL_490 rfl (lv_at hl 0 rfl) ?_
  refine lv_iload_n hx hb dL_491 rfl (lv_at hl 3 rfl) ?_
  refine lv_iconst (v := (1 : Int32)) hx hb dL_492 (by decide) ?_
  refine lv_iadd hx hb dL_493 ?_
  refine va_sld hx hb hX hbl hbA hS i1 dL_494 ?_
  rw [ha1]
  refine lv_aload_n hx hb dL_495 rfl (lv_at hl 0 rfl) ?_
  refine lv_iload_n hx hb dL_496 rfl (lv_at hl 3 rfl) ?_
  refine lv_iconst (v := (2 : Int32)) hx hb dL_497 (by decide) ?_
  refine lv_iadd hx hb dL_498 ?_
  refine va_sld hx hb hX hbl hbA hS i2 dL_499 ?_
  rw [ha2]
  refine lv_aload_n hx hb dL_500 rfl (lv_at hl 0 rfl) ?_
  refine lv_iload_n hx hb dL_501 rfl (lv_at hl 3 rfl) ?_
  refine lv_iconst (v := (3 : Int32)) hx hb dL_502 (by decide) ?_
  refine lv_iadd hx hb dL_503 ?_
  refine va_sld hx hb hX hbl hbA hS i3 dL_504 ?_
  rw [ha3]
  refine law_call (Λ := LM) (Λ2 := LC) (ad := adM) (ad2 := adC) (σ2 := σC1) (rest := [.int r]) (as := [aI a1, aI a2, aI a3]) hx hb hml hown hts hK hstM hDM hdisM hfM hlM hcc hss C2 wV_X11_walk wN_X11_walk (GW_6 20 rfl rfl) rfl rfl rfl (by decide) rfl hPM hPC hS hl.1 (Nat.le_of_ble_eq_true rfl) dL_505 (fun H locs hPM hPC hS => ?_)
  refine lv_icmp_eq (tgt := 1549) hx hb dL_508 rfl (fun _ => ?_) (fun h => absurd rfl h)
  exact kk _ _ hPC hPM hS
set_option maxRecDepth 100000 in
set_option maxHeartbeats 4000000 in
theorem law_c9 (G : LG p R s m args c D cs adC adM A b L xs cells slots) (Z : LZ s D cs adC adM A b L σC σM H locs ls x3) {r : Int32} {d1 d2 : Nat} {a1 : Int32} (ha1 : xs (x3 + 1).toNatClampNeg = a1) {a2 : Int32} (ha2 : xs (x3 + 2).toNatClampNeg = a2) (hfC : d1 + 1 ≤ R.frames) (hlC : 64 * (d1 + 1) ≤ R.locals) (hfM : d2 + 1 ≤ R.frames) (hlM : 64 * (d2 + 1) ≤ R.locals) (C1 : XM LC d1 M_X10_start (aR 0 0 :: [aI a1, aI a2]) σC (some (aI r)) σC1) (C2 : XM LM d2 M_X11_start (aR 0 0 :: [aI a1, aI a2]) σM (some (aI r)) σM1)
    (kk : ∀ (H1 : Heap) (locs1 : List Loc), va_P D vwCl (aWl LC cs adC σC1) H1 → va_P D vwCl (aWl LM cs adM σM1) H1 → va_S A s.heap H1 locs1 → W p l e R s m args below meth c H1 locs1 cells slots Q (F0 m 1549 ls [])) :
    W p l e R s m args below meth c H locs cells slots Q (F0 m 513 ls []) := by
  obtain ⟨hx, hb, hml, hown, htl, hX, hbl, hbA, hK, hstC, hstM, ⟨τC, hDC0⟩, ⟨τM, hDM0⟩, hdisC, hdisM, hcc, hss⟩ := G
  have hDC := aWl_D (σ' := σC) hDC0
  have hDM := aWl_D (σ' := σM) hDM0
  have hts : ∀ w ∈ GW, w.before args s = true := fun w hw => htl w (List.mem_filter.mp hw).1
  obtain ⟨hPC, hPM, hS, hl, i1, i2, i3, i4, i5⟩ := Z
  refine lv_aload_n hx hb dL_513 rfl (lv_at hl 1 rfl) ?_
  refine lv_aload_n hx hb dL_514 rfl (lv_at hl 0 rfl) ?_
  refine lv_iload_n hx hb dL_515 rfl (lv_at hl 3 rfl) ?_
  refine lv_iconst (v := (1 : Int32)) hx hb dL_516 (by decide) ?_
  refine lv_iadd hx hb dL_517 ?_
  refine va_sld hx hb hX hbl hbA hS i1 dL_518 ?_
  rw [ha1]
  refine lv_aload_n hx hb dL_519 rfl (lv_at hl 0 rfl) ?_
  refine lv_iload_n hx hb dL_520 rfl (lv_at hl 3 rfl) ?_
  refine lv_iconst (v := (2 : Int32)) hx hb dL_521 (by decide) ?_
  refine lv_iadd hx hb dL_522 ?_
  refine va_sld hx hb hX hbl hbA hS i2 dL_523 ?_
  rw [ha2]
  refine law_call (Λ := LC) (Λ2 := LM) (ad := adC) (ad2 := adM) (σ2 := σM) (rest := []) (as := [aI a1, aI a2]) hx hb hml hown hts hK hstC hDC hdisC hfC hlC hcc hss C1 wV_X10_start wN_X10_start (GW_3 96 rfl rfl) rfl rfl rfl (by decide) rfl hPC hPM hS hl.1 (Nat.le_of_ble_eq_true rfl) dL_524 (fun H locs hPC hPM hS => ?_)
  refine lv_aload_n hx hb dL_527 rfl (lv_at hl 2 rfl) ?_
  refine lv_aload_n hx hb dL_528 rfl (lv_at hl 0 rfl) ?_
  refine lv_iload_n hx hb dL_529 rfl (lv_at hl 3 rfl) ?_
  refine lv_iconst (v := (1 : Int32)) hx hb dL_530 (by decide) ?_
  refine lv_iadd hx hb dL_531 ?_
  refine va_sld hx hb hX hbl hbA hS i1 dL_532 ?_
  rw [ha1]
  refine lv_aload_n hx hb dL_533 rfl (lv_at hl 0 rfl) ?_
  refine lv_iload_n hx hb dL_534 rfl (lv_at hl 3 rfl) ?_
  refine lv_iconst (v := (2 : Int32)) hx hb dL_535 (by decide) ?_
  refine lv_iadd hx hb dL_536 ?_
  refine va_sld hx hb hX hbl hbA hS i2 dL_537 ?_
  rw [ha2]
  refine law_call (Λ := LM) (Λ2 := LC) (ad := adM) (ad2 := adC) (σ2 := σC1) (rest := [.int r]) (as := [aI a1, aI a2]) hx hb hml hown hts hK hstM hDM hdisM hfM hlM hcc hss C2 wV_X11_start wN_X11_start (GW_6 52 rfl rfl) rfl rfl rfl (by decide) rfl hPM hPC hS hl.1 (Nat.le_of_ble_eq_true rfl) dL_538 (fun H locs hPM hPC hS => ?_)
  refine lv_icmp_eq (tgt := 1549) hx hb dL_541 rfl (fun _ => ?_) (fun h => absurd rfl h)
  exact kk _ _ hPC hPM hS
set_option maxRecDepth 100000 in
set_option maxHeartbeats 4000000 in
theorem law_c10 (G : LG p R s m args c D cs adC adM A b L xs cells slots) (Z : LZ s D cs adC adM A b L σC σM H locs ls x3) {r : Int64} {d1 d2 : Nat} {a1 : Int32} (ha1 : xs (x3 + 1).toNatClampNeg = a1) {a2 : Int32} (ha2 : xs (x3 + 2).toNatClampNeg = a2) (hfC : d1 + 1 ≤ R.frames) (hlC : 64 * (d1 + 1) ≤ R.locals) (hfM : d2 + 1 ≤ R.frames) (hlM : 64 * (d2 + 1) ≤ R.locals) (C1 : XM LC d1 M_X10_hold (aR 0 0 :: [aI a1, aI a2]) σC (some (aJ r)) σC1) (C2 : XM LM d2 M_X11_hold (aR 0 0 :: [aI a1, aI a2]) σM (some (aJ r)) σM1)
    (kk : ∀ (H1 : Heap) (locs1 : List Loc), va_P D vwCl (aWl LC cs adC σC1) H1 → va_P D vwCl (aWl LM cs adM σM1) H1 → va_S A s.heap H1 locs1 → W p l e R s m args below meth c H1 locs1 cells slots Q (F0 m 1549 ls [])) :
    W p l e R s m args below meth c H locs cells slots Q (F0 m 546 ls []) := by
  obtain ⟨hx, hb, hml, hown, htl, hX, hbl, hbA, hK, hstC, hstM, ⟨τC, hDC0⟩, ⟨τM, hDM0⟩, hdisC, hdisM, hcc, hss⟩ := G
  have hDC := aWl_D (σ' := σC) hDC0
  have hDM := aWl_D (σ' := σM) hDM0
  have hts : ∀ w ∈ GW, w.before args s = true := fun w hw => htl w (List.mem_filter.mp hw).1
  obtain ⟨hPC, hPM, hS, hl, i1, i2, i3, i4, i5⟩ := Z
  refine lv_aload_n hx hb dL_546 rfl (lv_at hl 1 rfl) ?_
  refine lv_aload_n hx hb dL_547 rfl (lv_at hl 0 rfl) ?_
  refine lv_iload_n hx hb dL_548 rfl (lv_at hl 3 rfl) ?_
  refine lv_iconst (v := (1 : Int32)) hx hb dL_549 (by decide) ?_
  refine lv_iadd hx hb dL_550 ?_
  refine va_sld hx hb hX hbl hbA hS i1 dL_551 ?_
  rw [ha1]
  refine lv_aload_n hx hb dL_552 rfl (lv_at hl 0 rfl) ?_
  refine lv_iload_n hx hb dL_553 rfl (lv_at hl 3 rfl) ?_
  refine lv_iconst (v := (2 : Int32)) hx hb dL_554 (by decide) ?_
  refine lv_iadd hx hb dL_555 ?_
  refine va_sld hx hb hX hbl hbA hS i2 dL_556 ?_
  rw [ha2]
  refine law_call (Λ := LC) (Λ2 := LM) (ad := adC) (ad2 := adM) (σ2 := σM) (rest := []) (as := [aI a1, aI a2]) hx hb hml hown hts hK hstC hDC hdisC hfC hlC hcc hss C1 wV_X10_hold wN_X10_hold (GW_3 106 rfl rfl) rfl rfl rfl (by decide) rfl hPC hPM hS hl.1 (Nat.le_of_ble_eq_true rfl) dL_557 (fun H locs hPC hPM hS => ?_)
  refine lv_aload_n hx hb dL_560 rfl (lv_at hl 2 rfl) ?_
  refine lv_aload_n hx hb dL_561 rfl (lv_at hl 0 rfl) ?_
  refine lv_iload_n hx hb dL_562 rfl (lv_at hl 3 rfl) ?_
  refine lv_iconst (v := (1 : Int32)) hx hb dL_563 (by decide) ?_
  refine lv_iadd hx hb dL_564 ?_
  refine va_sld hx hb hX hbl hbA hS i1 dL_565 ?_
  rw [ha1]
  refine lv_aload_n hx hb dL_566 rfl (lv_at hl 0 rfl) ?_
  refine lv_iload_n hx hb dL_567 rfl (lv_at hl 3 rfl) ?_
  refine lv_iconst (v := (2 : Int32)) hx hb dL_568 (by decide) ?_
  refine lv_iadd hx hb dL_569 ?_
  refine va_sld hx hb hX hbl hbA hS i2 dL_570 ?_
  rw [ha2]
  refine law_call (Λ := LM) (Λ2 := LC) (ad := adM) (ad2 := adC) (σ2 := σC1) (rest := [.long r]) (as := [aI a1, aI a2]) hx hb hml hown hts hK hstM hDM hdisM hfM hlM hcc hss C2 wV_X11_hold wN_X11_hold (GW_6 56 rfl rfl) rfl rfl rfl (by decide) rfl hPM hPC hS hl.1 (Nat.le_of_ble_eq_true rfl) dL_571 (fun H locs hPM hPC hS => ?_)
  refine W.lcmp hx hb dL_574 ?_
  refine lv_if_eq (tgt := 1549) hx hb dL_575 (by decide) (fun _ => ?_) (fun h => absurd (cmp_self r) h)
  exact kk _ _ hPC hPM hS
set_option maxRecDepth 100000 in
set_option maxHeartbeats 4000000 in
theorem law_c11 (G : LG p R s m args c D cs adC adM A b L xs cells slots) (Z : LZ s D cs adC adM A b L σC σM H locs ls x3) {r : Int32} {d1 d2 : Nat} {a1 : Int32} (ha1 : xs (x3 + 1).toNatClampNeg = a1) (hfC : d1 + 1 ≤ R.frames) (hlC : 64 * (d1 + 1) ≤ R.locals) (hfM : d2 + 1 ≤ R.frames) (hlM : 64 * (d2 + 1) ≤ R.locals) (C1 : XM LC d1 M_X10_soonest (aR 0 0 :: [aI a1]) σC (some (aI r)) σC1) (C2 : XM LM d2 M_X11_soonest (aR 0 0 :: [aI a1]) σM (some (aI r)) σM1)
    (kk : ∀ (H1 : Heap) (locs1 : List Loc), va_P D vwCl (aWl LC cs adC σC1) H1 → va_P D vwCl (aWl LM cs adM σM1) H1 → va_S A s.heap H1 locs1 → W p l e R s m args below meth c H1 locs1 cells slots Q (F0 m 1549 ls [])) :
    W p l e R s m args below meth c H locs cells slots Q (F0 m 580 ls []) := by
  obtain ⟨hx, hb, hml, hown, htl, hX, hbl, hbA, hK, hstC, hstM, ⟨τC, hDC0⟩, ⟨τM, hDM0⟩, hdisC, hdisM, hcc, hss⟩ := G
  have hDC := aWl_D (σ' := σC) hDC0
  have hDM := aWl_D (σ' := σM) hDM0
  have hts : ∀ w ∈ GW, w.before args s = true := fun w hw => htl w (List.mem_filter.mp hw).1
  obtain ⟨hPC, hPM, hS, hl, i1, i2, i3, i4, i5⟩ := Z
  refine lv_aload_n hx hb dL_580 rfl (lv_at hl 1 rfl) ?_
  refine lv_aload_n hx hb dL_581 rfl (lv_at hl 0 rfl) ?_
  refine lv_iload_n hx hb dL_582 rfl (lv_at hl 3 rfl) ?_
  refine lv_iconst (v := (1 : Int32)) hx hb dL_583 (by decide) ?_
  refine lv_iadd hx hb dL_584 ?_
  refine va_sld hx hb hX hbl hbA hS i1 dL_585 ?_
  rw [ha1]
  refine law_call (Λ := LC) (Λ2 := LM) (ad := adC) (ad2 := adM) (σ2 := σM) (rest := []) (as := [aI a1]) hx hb hml hown hts hK hstC hDC hdisC hfC hlC hcc hss C1 wV_X10_soonest wN_X10_soonest (GW_3 140 rfl rfl) rfl rfl rfl (by decide) rfl hPC hPM hS hl.1 (Nat.le_of_ble_eq_true rfl) dL_586 (fun H locs hPC hPM hS => ?_)
  refine lv_aload_n hx hb dL_589 rfl (lv_at hl 2 rfl) ?_
  refine lv_aload_n hx hb dL_590 rfl (lv_at hl 0 rfl) ?_
  refine lv_iload_n hx hb dL_591 rfl (lv_at hl 3 rfl) ?_
  refine lv_iconst (v := (1 : Int32)) hx hb dL_592 (by decide) ?_
  refine lv_iadd hx hb dL_593 ?_
  refine va_sld hx hb hX hbl hbA hS i1 dL_594 ?_
  rw [ha1]
  refine law_call (Λ := LM) (Λ2 := LC) (ad := adM) (ad2 := adC) (σ2 := σC1) (rest := [.int r]) (as := [aI a1]) hx hb hml hown hts hK hstM hDM hdisM hfM hlM hcc hss C2 wV_X11_soonest wN_X11_soonest (GW_6 74 rfl rfl) rfl rfl rfl (by decide) rfl hPM hPC hS hl.1 (Nat.le_of_ble_eq_true rfl) dL_595 (fun H locs hPM hPC hS => ?_)
  refine lv_icmp_eq (tgt := 1549) hx hb dL_598 rfl (fun _ => ?_) (fun h => absurd rfl h)
  exact kk _ _ hPC hPM hS
set_option maxRecDepth 100000 in
set_option maxHeartbeats 4000000 in
theorem law_c12 (G : LG p R s m args c D cs adC adM A b L xs cells slots) (Z : LZ s D cs adC adM A b L σC σM H locs ls x3) {r : Int32} {d1 d2 : Nat} {a1 : Int32} (ha1 : xs (x3 + 1).toNatClampNeg = a1) {a2 : Int32} (ha2 : xs (x3 + 2).toNatClampNeg = a2) (hfC : d1 + 1 ≤ R.frames) (hlC : 64 * (d1 + 1) ≤ R.locals) (hfM : d2 + 1 ≤ R.frames) (hlM : 64 * (d2 + 1) ≤ R.locals) (C1 : XM LC d1 M_X10_safest (aR 0 0 :: [aI a1, aI a2]) σC (some (aI r)) σC1) (C2 : XM LM d2 M_X11_safest (aR 0 0 :: [aI a1, aI a2]) σM (some (aI r)) σM1)
    (kk : ∀ (H1 : Heap) (locs1 : List Loc), va_P D vwCl (aWl LC cs adC σC1) H1 → va_P D vwCl (aWl LM cs adM σM1) H1 → va_S A s.heap H1 locs1 → W p l e R s m args below meth c H1 locs1 cells slots Q (F0 m 1549 ls [])) :
    W p l e R s m args below meth c H locs cells slots Q (F0 m 603 ls []) := by
  obtain ⟨hx, hb, hml, hown, htl, hX, hbl, hbA, hK, hstC, hstM, ⟨τC, hDC0⟩, ⟨τM, hDM0⟩, hdisC, hdisM, hcc, hss⟩ := G
  have hDC := aWl_D (σ' := σC) hDC0
  have hDM := aWl_D (σ' := σM) hDM0
  have hts : ∀ w ∈ GW, w.before args s = true := fun w hw => htl w (List.mem_filter.mp hw).1
  obtain ⟨hPC, hPM, hS, hl, i1, i2, i3, i4, i5⟩ := Z
  refine lv_aload_n hx hb dL_603 rfl (lv_at hl 1 rfl) ?_
  refine lv_aload_n hx hb dL_604 rfl (lv_at hl 0 rfl) ?_
  refine lv_iload_n hx hb dL_605 rfl (lv_at hl 3 rfl) ?_
  refine lv_iconst (v := (1 : Int32)) hx hb dL_606 (by decide) ?_
  refine lv_iadd hx hb dL_607 ?_
  refine va_sld hx hb hX hbl hbA hS i1 dL_608 ?_
  rw [ha1]
  refine lv_aload_n hx hb dL_609 rfl (lv_at hl 0 rfl) ?_
  refine lv_iload_n hx hb dL_610 rfl (lv_at hl 3 rfl) ?_
  refine lv_iconst (v := (2 : Int32)) hx hb dL_611 (by decide) ?_
  refine lv_iadd hx hb dL_612 ?_
  refine va_sld hx hb hX hbl hbA hS i2 dL_613 ?_
  rw [ha2]
  refine law_call (Λ := LC) (Λ2 := LM) (ad := adC) (ad2 := adM) (σ2 := σM) (rest := []) (as := [aI a1, aI a2]) hx hb hml hown hts hK hstC hDC hdisC hfC hlC hcc hss C1 wV_X10_safest wN_X10_safest (GW_3 164 rfl rfl) rfl rfl rfl (by decide) rfl hPC hPM hS hl.1 (Nat.le_of_ble_eq_true rfl) dL_614 (fun H locs hPC hPM hS => ?_)
  refine lv_aload_n hx hb dL_617 rfl (lv_at hl 2 rfl) ?_
  refine lv_aload_n hx hb dL_618 rfl (lv_at hl 0 rfl) ?_
  refine lv_iload_n hx hb dL_619 rfl (lv_at hl 3 rfl) ?_
  refine lv_iconst (v := (1 : Int32)) hx hb dL_620 (by decide) ?_
  refine lv_iadd hx hb dL_621 ?_
  refine va_sld hx hb hX hbl hbA hS i1 dL_622 ?_
  rw [ha1]
  refine lv_aload_n hx hb dL_623 rfl (lv_at hl 0 rfl) ?_
  refine lv_iload_n hx hb dL_624 rfl (lv_at hl 3 rfl) ?_
  refine lv_iconst (v := (2 : Int32)) hx hb dL_625 (by decide) ?_
  refine lv_iadd hx hb dL_626 ?_
  refine va_sld hx hb hX hbl hbA hS i2 dL_627 ?_
  rw [ha2]
  refine law_call (Λ := LM) (Λ2 := LC) (ad := adM) (ad2 := adC) (σ2 := σC1) (rest := [.int r]) (as := [aI a1, aI a2]) hx hb hml hown hts hK hstM hDM hdisM hfM hlM hcc hss C2 wV_X11_safest wN_X11_safest (GW_6 94 rfl rfl) rfl rfl rfl (by decide) rfl hPM hPC hS hl.1 (Nat.le_of_ble_eq_true rfl) dL_628 (fun H locs hPM hPC hS => ?_)
  refine lv_icmp_eq (tgt := 1549) hx hb dL_631 rfl (fun _ => ?_) (fun h => absurd rfl h)
  exact kk _ _ hPC hPM hS
set_option maxRecDepth 100000 in
set_option maxHeartbeats 4000000 in
theorem law_c13 (G : LG p R s m args c D cs adC adM A b L xs cells slots) (Z : LZ s D cs adC adM A b L σC σM H locs ls x3) {r : Int32} {d1 d2 : Nat} {a1 : Int32} (ha1 : xs (x3 + 1).toNatClampNeg = a1) {a2 : Int32} (ha2 : xs (x3 + 2).toNatClampNeg = a2) (hfC : d1 + 1 ≤ R.frames) (hlC : 64 * (d1 + 1) ≤ R.locals) (hfM : d2 + 1 ≤ R.frames) (hlM : 64 * (d2 + 1) ≤ R.locals) (C1 : XM LC d1 M_X10_menFor (aR 0 0 :: [aI a1, aI a2]) σC (some (aI r)) σC1) (C2 : XM LM d2 M_X11_menFor (aR 0 0 :: [aI a1, aI a2]) σM (some (aI r)) σM1)
    (kk : ∀ (H1 : Heap) (locs1 : List Loc), va_P D vwCl (aWl LC cs adC σC1) H1 → va_P D vwCl (aWl LM cs adM σM1) H1 → va_S A s.heap H1 locs1 → W p l e R s m args below meth c H1 locs1 cells slots Q (F0 m 1549 ls [])) :
    W p l e R s m args below meth c H locs cells slots Q (F0 m 636 ls []) := by
  obtain ⟨hx, hb, hml, hown, htl, hX, hbl, hbA, hK, hstC, hstM, ⟨τC, hDC0⟩, ⟨τM, hDM0⟩, hdisC, hdisM, hcc, hss⟩ := G
  have hDC := aWl_D (σ' := σC) hDC0
  have hDM := aWl_D (σ' := σM) hDM0
  have hts : ∀ w ∈ GW, w.before args s = true := fun w hw => htl w (List.mem_filter.mp hw).1
  obtain ⟨hPC, hPM, hS, hl, i1, i2, i3, i4, i5⟩ := Z
  refine lv_aload_n hx hb dL_636 rfl (lv_at hl 1 rfl) ?_
  refine lv_aload_n hx hb dL_637 rfl (lv_at hl 0 rfl) ?_
  refine lv_iload_n hx hb dL_638 rfl (lv_at hl 3 rfl) ?_
  refine lv_iconst (v := (1 : Int32)) hx hb dL_639 (by decide) ?_
  refine lv_iadd hx hb dL_640 ?_
  refine va_sld hx hb hX hbl hbA hS i1 dL_641 ?_
  rw [ha1]
  refine lv_aload_n hx hb dL_642 rfl (lv_at hl 0 rfl) ?_
  refine lv_iload_n hx hb dL_643 rfl (lv_at hl 3 rfl) ?_
  refine lv_iconst (v := (2 : Int32)) hx hb dL_644 (by decide) ?_
  refine lv_iadd hx hb dL_645 ?_
  refine va_sld hx hb hX hbl hbA hS i2 dL_646 ?_
  rw [ha2]
  refine law_call (Λ := LC) (Λ2 := LM) (ad := adC) (ad2 := adM) (σ2 := σM) (rest := []) (as := [aI a1, aI a2]) hx hb hml hown hts hK hstC hDC hdisC hfC hlC hcc hss C1 wV_X10_menFor wN_X10_menFor (GW_3 172 rfl rfl) rfl rfl rfl (by decide) rfl hPC hPM hS hl.1 (Nat.le_of_ble_eq_true rfl) dL_647 (fun H locs hPC hPM hS => ?_)
  refine lv_aload_n hx hb dL_650 rfl (lv_at hl 2 rfl) ?_
  refine lv_aload_n hx hb dL_651 rfl (lv_at hl 0 rfl) ?_
  refine lv_iload_n hx hb dL_652 rfl (lv_at hl 3 rfl) ?_
  refine lv_iconst (v := (1 : Int32)) hx hb dL_653 (by decide) ?_
  refine lv_iadd hx hb dL_654 ?_
  refine va_sld hx hb hX hbl hbA hS i1 dL_655 ?_
  rw [ha1]
  refine lv_aload_n hx hb dL_656 rfl (lv_at hl 0 rfl) ?_
  refine lv_iload_n hx hb dL_657 rfl (lv_at hl 3 rfl) ?_
  refine lv_iconst (v := (2 : Int32)) hx hb dL_658 (by decide) ?_
  refine lv_iadd hx hb dL_659 ?_
  refine va_sld hx hb hX hbl hbA hS i2 dL_660 ?_
  rw [ha2]
  refine law_call (Λ := LM) (Λ2 := LC) (ad := adM) (ad2 := adC) (σ2 := σC1) (rest := [.int r]) (as := [aI a1, aI a2]) hx hb hml hown hts hK hstM hDM hdisM hfM hlM hcc hss C2 wV_X11_menFor wN_X11_menFor (GW_6 98 rfl rfl) rfl rfl rfl (by decide) rfl hPM hPC hS hl.1 (Nat.le_of_ble_eq_true rfl) dL_661 (fun H locs hPM hPC hS => ?_)
  refine lv_icmp_eq (tgt := 1549) hx hb dL_664 rfl (fun _ => ?_) (fun h => absurd rfl h)
  exact kk _ _ hPC hPM hS
set_option maxRecDepth 100000 in
set_option maxHeartbeats 4000000 in
theorem law_c14 (G : LG p R s m args c D cs adC adM A b L xs cells slots) (Z : LZ s D cs adC adM A b L σC σM H locs ls x3) {r : Int32} {d1 d2 : Nat} {a1 : Int32} (ha1 : xs (x3 + 1).toNatClampNeg = a1) {a2 : Int32} (ha2 : xs (x3 + 2).toNatClampNeg = a2) (hfC : d1 + 1 ≤ R.frames) (hlC : 64 * (d1 + 1) ≤ R.locals) (hfM : d2 + 1 ≤ R.frames) (hlM : 64 * (d2 + 1) ≤ R.locals) (C1 : XM LC d1 M_X10_van (aR 0 0 :: [aI a1, aI a2]) σC (some (aI r)) σC1) (C2 : XM LM d2 M_X11_van (aR 0 0 :: [aI a1, aI a2]) σM (some (aI r)) σM1)
    (kk : ∀ (H1 : Heap) (locs1 : List Loc), va_P D vwCl (aWl LC cs adC σC1) H1 → va_P D vwCl (aWl LM cs adM σM1) H1 → va_S A s.heap H1 locs1 → W p l e R s m args below meth c H1 locs1 cells slots Q (F0 m 1549 ls [])) :
    W p l e R s m args below meth c H locs cells slots Q (F0 m 669 ls []) := by
  obtain ⟨hx, hb, hml, hown, htl, hX, hbl, hbA, hK, hstC, hstM, ⟨τC, hDC0⟩, ⟨τM, hDM0⟩, hdisC, hdisM, hcc, hss⟩ := G
  have hDC := aWl_D (σ' := σC) hDC0
  have hDM := aWl_D (σ' := σM) hDM0
  have hts : ∀ w ∈ GW, w.before args s = true := fun w hw => htl w (List.mem_filter.mp hw).1
  obtain ⟨hPC, hPM, hS, hl, i1, i2, i3, i4, i5⟩ := Z
  refine lv_aload_n hx hb dL_669 rfl (lv_at hl 1 rfl) ?_
  refine lv_aload_n hx hb dL_670 rfl (lv_at hl 0 rfl) ?_
  refine lv_iload_n hx hb dL_671 rfl (lv_at hl 3 rfl) ?_
  refine lv_iconst (v := (1 : Int32)) hx hb dL_672 (by decide) ?_
  refine lv_iadd hx hb dL_673 ?_
  refine va_sld hx hb hX hbl hbA hS i1 dL_674 ?_
  rw [ha1]
  refine lv_aload_n hx hb dL_675 rfl (lv_at hl 0 rfl) ?_
  refine lv_iload_n hx hb dL_676 rfl (lv_at hl 3 rfl) ?_
  refine lv_iconst (v := (2 : Int32)) hx hb dL_677 (by decide) ?_
  refine lv_iadd hx hb dL_678 ?_
  refine va_sld hx hb hX hbl hbA hS i2 dL_679 ?_
  rw [ha2]
  refine law_call (Λ := LC) (Λ2 := LM) (ad := adC) (ad2 := adM) (σ2 := σM) (rest := []) (as := [aI a1, aI a2]) hx hb hml hown hts hK hstC hDC hdisC hfC hlC hcc hss C1 wV_X10_van wN_X10_van (GW_3 181 rfl rfl) rfl rfl rfl (by decide) rfl hPC hPM hS hl.1 (Nat.le_of_ble_eq_true rfl) dL_680 (fun H locs hPC hPM hS => ?_)
  refine lv_aload_n hx hb dL_683 rfl (lv_at hl 2 rfl) ?_
  refine lv_aload_n hx hb dL_684 rfl (lv_at hl 0 rfl) ?_
  refine lv_iload_n hx hb dL_685 rfl (lv_at hl 3 rfl) ?_
  refine lv_iconst (v := (1 : Int32)) hx hb dL_686 (by decide) ?_
  refine lv_iadd hx hb dL_687 ?_
  refine va_sld hx hb hX hbl hbA hS i1 dL_688 ?_
  rw [ha1]
  refine lv_aload_n hx hb dL_689 rfl (lv_at hl 0 rfl) ?_
  refine lv_iload_n hx hb dL_690 rfl (lv_at hl 3 rfl) ?_
  refine lv_iconst (v := (2 : Int32)) hx hb dL_691 (by decide) ?_
  refine lv_iadd hx hb dL_692 ?_
  refine va_sld hx hb hX hbl hbA hS i2 dL_693 ?_
  rw [ha2]
  refine law_call (Λ := LM) (Λ2 := LC) (ad := adM) (ad2 := adC) (σ2 := σC1) (rest := [.int r]) (as := [aI a1, aI a2]) hx hb hml hown hts hK hstM hDM hdisM hfM hlM hcc hss C2 wV_X11_van wN_X11_van (GW_6 102 rfl rfl) rfl rfl rfl (by decide) rfl hPM hPC hS hl.1 (Nat.le_of_ble_eq_true rfl) dL_694 (fun H locs hPM hPC hS => ?_)
  refine lv_icmp_eq (tgt := 1549) hx hb dL_697 rfl (fun _ => ?_) (fun h => absurd rfl h)
  exact kk _ _ hPC hPM hS
set_option maxRecDepth 100000 in
set_option maxHeartbeats 4000000 in
theorem law_c15 (G : LG p R s m args c D cs adC adM A b L xs cells slots) (Z : LZ s D cs adC adM A b L σC σM H locs ls x3) {r : Int32} {d1 d2 : Nat} {a1 : Int32} (ha1 : xs (x3 + 1).toNatClampNeg = a1) {a2 : Int32} (ha2 : xs (x3 + 2).toNatClampNeg = a2) (hfC : d1 + 1 ≤ R.frames) (hlC : 64 * (d1 + 1) ≤ R.locals) (hfM : d2 + 1 ≤ R.frames) (hlM : 64 * (d2 + 1) ≤ R.locals) (C1 : XM LC d1 M_X10_windFrom (aR 0 0 :: [aI a1, aI a2]) σC (some (aI r)) σC1) (C2 : XM LM d2 M_X11_windFrom (aR 0 0 :: [aI a1, aI a2]) σM (some (aI r)) σM1)
    (kk : ∀ (H1 : Heap) (locs1 : List Loc), va_P D vwCl (aWl LC cs adC σC1) H1 → va_P D vwCl (aWl LM cs adM σM1) H1 → va_S A s.heap H1 locs1 → W p l e R s m args below meth c H1 locs1 cells slots Q (F0 m 1549 ls [])) :
    W p l e R s m args below meth c H locs cells slots Q (F0 m 702 ls []) := by
  obtain ⟨hx, hb, hml, hown, htl, hX, hbl, hbA, hK, hstC, hstM, ⟨τC, hDC0⟩, ⟨τM, hDM0⟩, hdisC, hdisM, hcc, hss⟩ := G
  have hDC := aWl_D (σ' := σC) hDC0
  have hDM := aWl_D (σ' := σM) hDM0
  have hts : ∀ w ∈ GW, w.before args s = true := fun w hw => htl w (List.mem_filter.mp hw).1
  obtain ⟨hPC, hPM, hS, hl, i1, i2, i3, i4, i5⟩ := Z
  refine lv_aload_n hx hb dL_702 rfl (lv_at hl 1 rfl) ?_
  refine lv_aload_n hx hb dL_703 rfl (lv_at hl 0 rfl) ?_
  refine lv_iload_n hx hb dL_704 rfl (lv_at hl 3 rfl) ?_
  refine lv_iconst (v := (1 : Int32)) hx hb dL_705 (by decide) ?_
  refine lv_iadd hx hb dL_706 ?_
  refine va_sld hx hb hX hbl hbA hS i1 dL_707 ?_
  rw [ha1]
  refine lv_aload_n hx hb dL_708 rfl (lv_at hl 0 rfl) ?_
  refine lv_iload_n hx hb dL_709 rfl (lv_at hl 3 rfl) ?_
  refine lv_iconst (v := (2 : Int32)) hx hb dL_710 (by decide) ?_
  refine lv_iadd hx hb dL_711 ?_
  refine va_sld hx hb hX hbl hbA hS i2 dL_712 ?_
  rw [ha2]
  refine law_call (Λ := LC) (Λ2 := LM) (ad := adC) (ad2 := adM) (σ2 := σM) (rest := []) (as := [aI a1, aI a2]) hx hb hml hown hts hK hstC hDC hdisC hfC hlC hcc hss C1 wV_X10_windFrom wN_X10_windFrom (GW_3 189 rfl rfl) rfl rfl rfl (by decide) rfl hPC hPM hS hl.1 (Nat.le_of_ble_eq_true rfl) dL_713 (fun H locs hPC hPM hS => ?_)
  refine lv_aload_n hx hb dL_716 rfl (lv_at hl 2 rfl) ?_
  refine lv_aload_n hx hb dL_717 rfl (lv_at hl 0 rfl) ?_
  refine lv_iload_n hx hb dL_718 rfl (lv_at hl 3 rfl) ?_
  refine lv_iconst (v := (1 : Int32)) hx hb dL_719 (by decide) ?_
  refine lv_iadd hx hb dL_720 ?_
  refine va_sld hx hb hX hbl hbA hS i1 dL_721 ?_
  rw [ha1]
  refine lv_aload_n hx hb dL_722 rfl (lv_at hl 0 rfl) ?_
  refine lv_iload_n hx hb dL_723 rfl (lv_at hl 3 rfl) ?_
  refine lv_iconst (v := (2 : Int32)) hx hb dL_724 (by decide) ?_
  refine lv_iadd hx hb dL_725 ?_
  refine va_sld hx hb hX hbl hbA hS i2 dL_726 ?_
  rw [ha2]
  refine law_call (Λ := LM) (Λ2 := LC) (ad := adM) (ad2 := adC) (σ2 := σC1) (rest := [.int r]) (as := [aI a1, aI a2]) hx hb hml hown hts hK hstM hDM hdisM hfM hlM hcc hss C2 wV_X11_windFrom wN_X11_windFrom (GW_6 106 rfl rfl) rfl rfl rfl (by decide) rfl hPM hPC hS hl.1 (Nat.le_of_ble_eq_true rfl) dL_727 (fun H locs hPM hPC hS => ?_)
  refine lv_icmp_eq (tgt := 1549) hx hb dL_730 rfl (fun _ => ?_) (fun h => absurd rfl h)
  exact kk _ _ hPC hPM hS
set_option maxRecDepth 100000 in
set_option maxHeartbeats 4000000 in
theorem law_c16 (G : LG p R s m args c D cs adC adM A b L xs cells slots) (Z : LZ s D cs adC adM A b L σC σM H locs ls x3) {r : Int32} {d1 d2 : Nat} {a1 : Int32} (ha1 : xs (x3 + 1).toNatClampNeg = a1) {a2 : Int32} (ha2 : xs (x3 + 2).toNatClampNeg = a2) (hfC : d1 + 1 ≤ R.frames) (hlC : 64 * (d1 + 1) ≤ R.locals) (hfM : d2 + 1 ≤ R.frames) (hlM : 64 * (d2 + 1) ≤ R.locals) (C1 : XM LC d1 M_X10_scratchFor (aR 0 0 :: [aI a1, aI a2]) σC (some (aI r)) σC1) (C2 : XM LM d2 M_X11_scratchFor (aR 0 0 :: [aI a1, aI a2]) σM (some (aI r)) σM1)
    (kk : ∀ (H1 : Heap) (locs1 : List Loc), va_P D vwCl (aWl LC cs adC σC1) H1 → va_P D vwCl (aWl LM cs adM σM1) H1 → va_S A s.heap H1 locs1 → W p l e R s m args below meth c H1 locs1 cells slots Q (F0 m 1549 ls [])) :
    W p l e R s m args below meth c H locs cells slots Q (F0 m 735 ls []) := by
  obtain ⟨hx, hb, hml, hown, htl, hX, hbl, hbA, hK, hstC, hstM, ⟨τC, hDC0⟩, ⟨τM, hDM0⟩, hdisC, hdisM, hcc, hss⟩ := G
  have hDC := aWl_D (σ' := σC) hDC0
  have hDM := aWl_D (σ' := σM) hDM0
  have hts : ∀ w ∈ GW, w.before args s = true := fun w hw => htl w (List.mem_filter.mp hw).1
  obtain ⟨hPC, hPM, hS, hl, i1, i2, i3, i4, i5⟩ := Z
  refine lv_aload_n hx hb dL_735 rfl (lv_at hl 1 rfl) ?_
  refine lv_aload_n hx hb dL_736 rfl (lv_at hl 0 rfl) ?_
  refine lv_iload_n hx hb dL_737 rfl (lv_at hl 3 rfl) ?_
  refine lv_iconst (v := (1 : Int32)) hx hb dL_738 (by decide) ?_
  refine lv_iadd hx hb dL_739 ?_
  refine va_sld hx hb hX hbl hbA hS i1 dL_740 ?_
  rw [ha1]
  refine lv_aload_n hx hb dL_741 rfl (lv_at hl 0 rfl) ?_
  refine lv_iload_n hx hb dL_742 rfl (lv_at hl 3 rfl) ?_
  refine lv_iconst (v := (2 : Int32)) hx hb dL_743 (by decide) ?_
  refine lv_iadd hx hb dL_744 ?_
  refine va_sld hx hb hX hbl hbA hS i2 dL_745 ?_
  rw [ha2]
  refine law_call (Λ := LC) (Λ2 := LM) (ad := adC) (ad2 := adM) (σ2 := σM) (rest := []) (as := [aI a1, aI a2]) hx hb hml hown hts hK hstC hDC hdisC hfC hlC hcc hss C1 wV_X10_scratchFor wN_X10_scratchFor (GW_3 197 rfl rfl) rfl rfl rfl (by decide) rfl hPC hPM hS hl.1 (Nat.le_of_ble_eq_true rfl) dL_746 (fun H locs hPC hPM hS => ?_)
  refine lv_aload_n hx hb dL_749 rfl (lv_at hl 2 rfl) ?_
  refine lv_aload_n hx hb dL_750 rfl (lv_at hl 0 rfl) ?_
  refine lv_iload_n hx hb dL_751 rfl (lv_at hl 3 rfl) ?_
  refine lv_iconst (v := (1 : Int32)) hx hb dL_752 (by decide) ?_
  refine lv_iadd hx hb dL_753 ?_
  refine va_sld hx hb hX hbl hbA hS i1 dL_754 ?_
  rw [ha1]
  refine lv_aload_n hx hb dL_755 rfl (lv_at hl 0 rfl) ?_
  refine lv_iload_n hx hb dL_756 rfl (lv_at hl 3 rfl) ?_
  refine lv_iconst (v := (2 : Int32)) hx hb dL_757 (by decide) ?_
  refine lv_iadd hx hb dL_758 ?_
  refine va_sld hx hb hX hbl hbA hS i2 dL_759 ?_
  rw [ha2]
  refine law_call (Λ := LM) (Λ2 := LC) (ad := adM) (ad2 := adC) (σ2 := σC1) (rest := [.int r]) (as := [aI a1, aI a2]) hx hb hml hown hts hK hstM hDM hdisM hfM hlM hcc hss C2 wV_X11_scratchFor wN_X11_scratchFor (GW_6 110 rfl rfl) rfl rfl rfl (by decide) rfl hPM hPC hS hl.1 (Nat.le_of_ble_eq_true rfl) dL_760 (fun H locs hPM hPC hS => ?_)
  refine lv_icmp_eq (tgt := 1549) hx hb dL_763 rfl (fun _ => ?_) (fun h => absurd rfl h)
  exact kk _ _ hPC hPM hS
set_option maxRecDepth 100000 in
set_option maxHeartbeats 4000000 in
theorem law_c17 (G : LG p R s m args c D cs adC adM A b L xs cells slots) (Z : LZ s D cs adC adM A b L σC σM H locs ls x3) {r : Int64} {d1 d2 : Nat} {a1 : Int32} (ha1 : xs (x3 + 1).toNatClampNeg = a1) (hfC : d1 + 1 ≤ R.frames) (hlC : 64 * (d1 + 1) ≤ R.locals) (hfM : d2 + 1 ≤ R.frames) (hlM : 64 * (d2 + 1) ≤ R.locals) (C1 : XM LC d1 M_X10_free (aR 0 0 :: [aI a1]) σC (some (aJ r)) σC1) (C2 : XM LM d2 M_X11_free (aR 0 0 :: [aI a1]) σM (some (aJ r)) σM1)
    (kk : ∀ (H1 : Heap) (locs1 : List Loc), va_P D vwCl (aWl LC cs adC σC1) H1 → va_P D vwCl (aWl LM cs adM σM1) H1 → va_S A s.heap H1 locs1 → W p l e R s m args below meth c H1 locs1 cells slots Q (F0 m 1549 ls [])) :
    W p l e R s m args below meth c H locs cells slots Q (F0 m 768 ls []) := by
  obtain ⟨hx, hb, hml, hown, htl, hX, hbl, hbA, hK, hstC, hstM, ⟨τC, hDC0⟩, ⟨τM, hDM0⟩, hdisC, hdisM, hcc, hss⟩ := G
  have hDC := aWl_D (σ' := σC) hDC0
  have hDM := aWl_D (σ' := σM) hDM0
  have hts : ∀ w ∈ GW, w.before args s = true := fun w hw => htl w (List.mem_filter.mp hw).1
  obtain ⟨hPC, hPM, hS, hl, i1, i2, i3, i4, i5⟩ := Z
  refine lv_aload_n hx hb dL_768 rfl (lv_at hl 1 rfl) ?_
  refine lv_aload_n hx hb dL_769 rfl (lv_at hl 0 rfl) ?_
  refine lv_iload_n hx hb dL_770 rfl (lv_at hl 3 rfl) ?_
  refine lv_iconst (v := (1 : Int32)) hx hb dL_771 (by decide) ?_
  refine lv_iadd hx hb dL_772 ?_
  refine va_sld hx hb hX hbl hbA hS i1 dL_773 ?_
  rw [ha1]
  refine law_call (Λ := LC) (Λ2 := LM) (ad := adC) (ad2 := adM) (σ2 := σM) (rest := []) (as := [aI a1]) hx hb hml hown hts hK hstC hDC hdisC hfC hlC hcc hss C1 wV_X10_free wN_X10_free (GW_3 205 rfl rfl) rfl rfl rfl (by decide) rfl hPC hPM hS hl.1 (Nat.le_of_ble_eq_true rfl) dL_774 (fun H locs hPC hPM hS => ?_)
  refine lv_aload_n hx hb dL_777 rfl (lv_at hl 2 rfl) ?_
  refine lv_aload_n hx hb dL_778 rfl (lv_at hl 0 rfl) ?_
  refine lv_iload_n hx hb dL_779 rfl (lv_at hl 3 rfl) ?_
  refine lv_iconst (v := (1 : Int32)) hx hb dL_780 (by decide) ?_
  refine lv_iadd hx hb dL_781 ?_
  refine va_sld hx hb hX hbl hbA hS i1 dL_782 ?_
  rw [ha1]
  refine law_call (Λ := LM) (Λ2 := LC) (ad := adM) (ad2 := adC) (σ2 := σC1) (rest := [.long r]) (as := [aI a1]) hx hb hml hown hts hK hstM hDM hdisM hfM hlM hcc hss C2 wV_X11_free wN_X11_free (GW_6 114 rfl rfl) rfl rfl rfl (by decide) rfl hPM hPC hS hl.1 (Nat.le_of_ble_eq_true rfl) dL_783 (fun H locs hPM hPC hS => ?_)
  refine W.lcmp hx hb dL_786 ?_
  refine lv_if_eq (tgt := 1549) hx hb dL_787 (by decide) (fun _ => ?_) (fun h => absurd (cmp_self r) h)
  exact kk _ _ hPC hPM hS
set_option maxRecDepth 100000 in
set_option maxHeartbeats 4000000 in
theorem law_c18 (G : LG p R s m args c D cs adC adM A b L xs cells slots) (Z : LZ s D cs adC adM A b L σC σM H locs ls x3) {r : Int64} {d1 d2 : Nat} {a1 : Int32} (ha1 : xs (x3 + 1).toNatClampNeg = a1) (hfC : d1 + 1 ≤ R.frames) (hlC : 64 * (d1 + 1) ≤ R.locals) (hfM : d2 + 1 ≤ R.frames) (hlM : 64 * (d2 + 1) ≤ R.locals) (C1 : XM LC d1 M_X10_watch (aR 0 0 :: [aI a1]) σC (some (aJ r)) σC1) (C2 : XM LM d2 M_X11_watch (aR 0 0 :: [aI a1]) σM (some (aJ r)) σM1)
    (kk : ∀ (H1 : Heap) (locs1 : List Loc), va_P D vwCl (aWl LC cs adC σC1) H1 → va_P D vwCl (aWl LM cs adM σM1) H1 → va_S A s.heap H1 locs1 → W p l e R s m args below meth c H1 locs1 cells slots Q (F0 m 1549 ls [])) :
    W p l e R s m args below meth c H locs cells slots Q (F0 m 792 ls []) := by
  obtain ⟨hx, hb, hml, hown, htl, hX, hbl, hbA, hK, hstC, hstM, ⟨τC, hDC0⟩, ⟨τM, hDM0⟩, hdisC, hdisM, hcc, hss⟩ := G
  have hDC := aWl_D (σ' := σC) hDC0
  have hDM := aWl_D (σ' := σM) hDM0
  have hts : ∀ w ∈ GW, w.before args s = true := fun w hw => htl w (List.mem_filter.mp hw).1
  obtain ⟨hPC, hPM, hS, hl, i1, i2, i3, i4, i5⟩ := Z
  refine lv_aload_n hx hb dL_792 rfl (lv_at hl 1 rfl) ?_
  refine lv_aload_n hx hb dL_793 rfl (lv_at hl 0 rfl) ?_
  refine lv_iload_n hx hb dL_794 rfl (lv_at hl 3 rfl) ?_
  refine lv_iconst (v := (1 : Int32)) hx hb dL_795 (by decide) ?_
  refine lv_iadd hx hb dL_796 ?_
  refine va_sld hx hb hX hbl hbA hS i1 dL_797 ?_
  rw [ha1]
  refine law_call (Λ := LC) (Λ2 := LM) (ad := adC) (ad2 := adM) (σ2 := σM) (rest := []) (as := [aI a1]) hx hb hml hown hts hK hstC hDC hdisC hfC hlC hcc hss C1 wV_X10_watch wN_X10_watch (GW_3 223 rfl rfl) rfl rfl rfl (by decide) rfl hPC hPM hS hl.1 (Nat.le_of_ble_eq_true rfl) dL_798 (fun H locs hPC hPM hS => ?_)
  refine lv_aload_n hx hb dL_801 rfl (lv_at hl 2 rfl) ?_
  refine lv_aload_n hx hb dL_802 rfl (lv_at hl 0 rfl) ?_
  refine lv_iload_n hx hb dL_803 rfl (lv_at hl 3 rfl) ?_
  refine lv_iconst (v := (1 : Int32)) hx hb dL_804 (by decide) ?_
  refine lv_iadd hx hb dL_805 ?_
  refine va_sld hx hb hX hbl hbA hS i1 dL_806 ?_
  rw [ha1]
  refine law_call (Λ := LM) (Λ2 := LC) (ad := adM) (ad2 := adC) (σ2 := σC1) (rest := [.long r]) (as := [aI a1]) hx hb hml hown hts hK hstM hDM hdisM hfM hlM hcc hss C2 wV_X11_watch wN_X11_watch (GW_6 132 rfl rfl) rfl rfl rfl (by decide) rfl hPM hPC hS hl.1 (Nat.le_of_ble_eq_true rfl) dL_807 (fun H locs hPM hPC hS => ?_)
  refine W.lcmp hx hb dL_810 ?_
  refine lv_if_eq (tgt := 1549) hx hb dL_811 (by decide) (fun _ => ?_) (fun h => absurd (cmp_self r) h)
  exact kk _ _ hPC hPM hS
set_option maxRecDepth 100000 in
set_option maxHeartbeats 4000000 in
theorem law_c19 (G : LG p R s m args c D cs adC adM A b L xs cells slots) (Z : LZ s D cs adC adM A b L σC σM H locs ls x3) {r : Int64} {d1 d2 : Nat} {a1 : Int32} (ha1 : xs (x3 + 1).toNatClampNeg = a1) {a2 : Int32} (ha2 : xs (x3 + 2).toNatClampNeg = a2) (hfC : d1 + 1 ≤ R.frames) (hlC : 64 * (d1 + 1) ≤ R.locals) (hfM : d2 + 1 ≤ R.frames) (hlM : 64 * (d2 + 1) ≤ R.locals) (C1 : XM LC d1 M_X10_earlier (aR 0 0 :: [aI a1, aI a2]) σC (some (aJ r)) σC1) (C2 : XM LM d2 M_X11_earlier (aR 0 0 :: [aI a1, aI a2]) σM (some (aJ r)) σM1)
    (kk : ∀ (H1 : Heap) (locs1 : List Loc), va_P D vwCl (aWl LC cs adC σC1) H1 → va_P D vwCl (aWl LM cs adM σM1) H1 → va_S A s.heap H1 locs1 → W p l e R s m args below meth c H1 locs1 cells slots Q (F0 m 1549 ls [])) :
    W p l e R s m args below meth c H locs cells slots Q (F0 m 816 ls []) := by
  obtain ⟨hx, hb, hml, hown, htl, hX, hbl, hbA, hK, hstC, hstM, ⟨τC, hDC0⟩, ⟨τM, hDM0⟩, hdisC, hdisM, hcc, hss⟩ := G
  have hDC := aWl_D (σ' := σC) hDC0
  have hDM := aWl_D (σ' := σM) hDM0
  have hts : ∀ w ∈ GW, w.before args s = true := fun w hw => htl w (List.mem_filter.mp hw).1
  obtain ⟨hPC, hPM, hS, hl, i1, i2, i3, i4, i5⟩ := Z
  refine lv_aload_n hx hb dL_816 rfl (lv_at hl 1 rfl) ?_
  refine lv_aload_n hx hb dL_817 rfl (lv_at hl 0 rfl) ?_
  refine lv_iload_n hx hb dL_818 rfl (lv_at hl 3 rfl) ?_
  refine lv_iconst (v := (1 : Int32)) hx hb dL_819 (by decide) ?_
  refine lv_iadd hx hb dL_820 ?_
  refine va_sld hx hb hX hbl hbA hS i1 dL_821 ?_
  rw [ha1]
  refine lv_aload_n hx hb dL_822 rfl (lv_at hl 0 rfl) ?_
  refine lv_iload_n hx hb dL_823 rfl (lv_at hl 3 rfl) ?_
  refine lv_iconst (v := (2 : Int32)) hx hb dL_824 (by decide) ?_
  refine lv_iadd hx hb dL_825 ?_
  refine va_sld hx hb hX hbl hbA hS i2 dL_826 ?_
  rw [ha2]
  refine law_call (Λ := LC) (Λ2 := LM) (ad := adC) (ad2 := adM) (σ2 := σM) (rest := []) (as := [aI a1, aI a2]) hx hb hml hown hts hK hstC hDC hdisC hfC hlC hcc hss C1 wV_X10_earlier wN_X10_earlier (GW_3 232 rfl rfl) rfl rfl rfl (by decide) rfl hPC hPM hS hl.1 (Nat.le_of_ble_eq_true rfl) dL_827 (fun H locs hPC hPM hS => ?_)
  refine lv_aload_n hx hb dL_830 rfl (lv_at hl 2 rfl) ?_
  refine lv_aload_n hx hb dL_831 rfl (lv_at hl 0 rfl) ?_
  refine lv_iload_n hx hb dL_832 rfl (lv_at hl 3 rfl) ?_
  refine lv_iconst (v := (1 : Int32)) hx hb dL_833 (by decide) ?_
  refine lv_iadd hx hb dL_834 ?_
  refine va_sld hx hb hX hbl hbA hS i1 dL_835 ?_
  rw [ha1]
  refine lv_aload_n hx hb dL_836 rfl (lv_at hl 0 rfl) ?_
  refine lv_iload_n hx hb dL_837 rfl (lv_at hl 3 rfl) ?_
  refine lv_iconst (v := (2 : Int32)) hx hb dL_838 (by decide) ?_
  refine lv_iadd hx hb dL_839 ?_
  refine va_sld hx hb hX hbl hbA hS i2 dL_840 ?_
  rw [ha2]
  refine law_call (Λ := LM) (Λ2 := LC) (ad := adM) (ad2 := adC) (σ2 := σC1) (rest := [.long r]) (as := [aI a1, aI a2]) hx hb hml hown hts hK hstM hDM hdisM hfM hlM hcc hss C2 wV_X11_earlier wN_X11_earlier (GW_6 136 rfl rfl) rfl rfl rfl (by decide) rfl hPM hPC hS hl.1 (Nat.le_of_ble_eq_true rfl) dL_841 (fun H locs hPM hPC hS => ?_)
  refine W.lcmp hx hb dL_844 ?_
  refine lv_if_eq (tgt := 1549) hx hb dL_845 (by decide) (fun _ => ?_) (fun h => absurd (cmp_self r) h)
  exact kk _ _ hPC hPM hS
set_option maxRecDepth 100000 in
set_option maxHeartbeats 4000000 in
theorem law_c20 (G : LG p R s m args c D cs adC adM A b L xs cells slots) (Z : LZ s D cs adC adM A b L σC σM H locs ls x3) {r : Int64} {d1 d2 : Nat} {a1 : Int32} (ha1 : xs (x3 + 1).toNatClampNeg = a1) {a2 : Int32} (ha2 : xs (x3 + 2).toNatClampNeg = a2) {a3 : Int32} (ha3 : xs (x3 + 3).toNatClampNeg = a3) (hfC : d1 + 1 ≤ R.frames) (hlC : 64 * (d1 + 1) ≤ R.locals) (hfM : d2 + 1 ≤ R.frames) (hlM : 64 * (d2 + 1) ≤ R.locals) (C1 : XM LC d1 M_X10_cost (aR 0 0 :: [aI a1, aI a2, aI a3]) σC (some (aJ r)) σC1) (C2 : XM LM d2 M_X11_cost (aR 0 0 :: [aI a1, aI a2, aI a3]) σM (some (aJ r)) σM1)
    (kk : ∀ (H1 : Heap) (locs1 : List Loc), va_P D vwCl (aWl LC cs adC σC1) H1 → va_P D vwCl (aWl LM cs adM σM1) H1 → va_S A s.heap H1 locs1 → W p l e R s m args below meth c H1 locs1 cells slots Q (F0 m 1549 ls [])) :
    W p l e R s m args below meth c H locs cells slots Q (F0 m 850 ls []) := by
  obtain ⟨hx, hb, hml, hown, htl, hX, hbl, hbA, hK, hstC, hstM, ⟨τC, hDC0⟩, ⟨τM, hDM0⟩, hdisC, hdisM, hcc, hss⟩ := G
  have hDC := aWl_D (σ' := σC) hDC0
  have hDM := aWl_D (σ' := σM) hDM0
  have hts : ∀ w ∈ GW, w.before args s = true := fun w hw => htl w (List.mem_filter.mp hw).1
  obtain ⟨hPC, hPM, hS, hl, i1, i2, i3, i4, i5⟩ := Z
  refine lv_aload_n hx hb dL_850 rfl (lv_at hl 1 rfl) ?_
  refine lv_aload_n hx hb dL_851 rfl (lv_at hl 0 rfl) ?_
  refine lv_iload_n hx hb dL_852 rfl (lv_at hl 3 rfl) ?_
  refine lv_iconst (v := (1 : Int32)) hx hb dL_853 (by decide) ?_
  refine lv_iadd hx hb dL_854 ?_
  refine va_sld hx hb hX hbl hbA hS i1 dL_855 ?_
  rw [ha1]
  refine lv_aload_n hx hb dL_856 rfl (lv_at hl 0 rfl) ?_
  refine lv_iload_n hx hb dL_857 rfl (lv_at hl 3 rfl) ?_
  refine lv_iconst (v := (2 : Int32)) hx hb dL_858 (by decide) ?_
  refine lv_iadd hx hb dL_859 ?_
  refine va_sld hx hb hX hbl hbA hS i2 dL_860 ?_
  rw [ha2]
  refine lv_aload_n hx hb dL_861 rfl (lv_at hl 0 rfl) ?_
  refine lv_iload_n hx hb dL_862 rfl (lv_at hl 3 rfl) ?_
  refine lv_iconst (v := (3 : Int32)) hx hb dL_863 (by decide) ?_
  refine lv_iadd hx hb dL_864 ?_
  refine va_sld hx hb hX hbl hbA hS i3 dL_865 ?_
  rw [ha3]
  refine law_call (Λ := LC) (Λ2 := LM) (ad := adC) (ad2 := adM) (σ2 := σM) (rest := []) (as := [aI a1, aI a2, aI a3]) hx hb hml hown hts hK hstC hDC hdisC hfC hlC hcc hss C1 wV_X10_cost wN_X10_cost (GW_3 236 rfl rfl) rfl rfl rfl (by decide) rfl hPC hPM hS hl.1 (Nat.le_of_ble_eq_true rfl) dL_866 (fun H locs hPC hPM hS => ?_)
  refine lv_aload_n hx hb dL_869 rfl (lv_at hl 2 rfl) ?_
  refine lv_aload_n hx hb dL_870 rfl (lv_at hl 0 rfl) ?_
  refine lv_iload_n hx hb dL_871 rfl (lv_at hl 3 rfl) ?_
  refine lv_iconst (v := (1 : Int32)) hx hb dL_872 (by decide) ?_
  refine lv_iadd hx hb dL_873 ?_
  refine va_sld hx hb hX hbl hbA hS i1 dL_874 ?_
  rw [ha1]
  refine lv_aload_n hx hb dL_875 rfl (lv_at hl 0 rfl) ?_
  refine lv_iload_n hx hb dL_876 rfl (lv_at hl 3 rfl) ?_
  refine lv_iconst (v := (2 : Int32)) hx hb dL_877 (by decide) ?_
  refine lv_iadd hx hb dL_878 ?_
  refine va_sld hx hb hX hbl hbA hS i2 dL_879 ?_
  rw [ha2]
  refine lv_aload_n hx hb dL_880 rfl (lv_at hl 0 rfl) ?_
  refine lv_iload_n hx hb dL_881 rfl (lv_at hl 3 rfl) ?_
  refine lv_iconst (v := (3 : Int32)) hx hb dL_882 (by decide) ?_
  refine lv_iadd hx hb dL_883 ?_
  refine va_sld hx hb hX hbl hbA hS i3 dL_884 ?_
  rw [ha3]
  refine law_call (Λ := LM) (Λ2 := LC) (ad := adM) (ad2 := adC) (σ2 := σC1) (rest := [.long r]) (as := [aI a1, aI a2, aI a3]) hx hb hml hown hts hK hstM hDM hdisM hfM hlM hcc hss C2 wV_X11_cost wN_X11_cost (GW_6 140 rfl rfl) rfl rfl rfl (by decide) rfl hPM hPC hS hl.1 (Nat.le_of_ble_eq_true rfl) dL_885 (fun H locs hPM hPC hS => ?_)
  refine W.lcmp hx hb dL_888 ?_
  refine lv_if_eq (tgt := 1549) hx hb dL_889 (by decide) (fun _ => ?_) (fun h => absurd (cmp_self r) h)
  exact kk _ _ hPC hPM hS
set_option maxRecDepth 100000 in
set_option maxHeartbeats 4000000 in
theorem law_c21 (G : LG p R s m args c D cs adC adM A b L xs cells slots) (Z : LZ s D cs adC adM A b L σC σM H locs ls x3) {r : Int64} {d1 d2 : Nat} {a1 : Int32} (ha1 : xs (x3 + 1).toNatClampNeg = a1) {a2 : Int32} (ha2 : xs (x3 + 2).toNatClampNeg = a2) (hfC : d1 + 1 ≤ R.frames) (hlC : 64 * (d1 + 1) ≤ R.locals) (hfM : d2 + 1 ≤ R.frames) (hlM : 64 * (d2 + 1) ≤ R.locals) (C1 : XM LC d1 M_X10_begun (aR 0 0 :: [aI a1, aI a2]) σC (some (aJ r)) σC1) (C2 : XM LM d2 M_X11_begun (aR 0 0 :: [aI a1, aI a2]) σM (some (aJ r)) σM1)
    (kk : ∀ (H1 : Heap) (locs1 : List Loc), va_P D vwCl (aWl LC cs adC σC1) H1 → va_P D vwCl (aWl LM cs adM σM1) H1 → va_S A s.heap H1 locs1 → W p l e R s m args below meth c H1 locs1 cells slots Q (F0 m 1549 ls [])) :
    W p l e R s m args below meth c H locs cells slots Q (F0 m 894 ls []) := by
  obtain ⟨hx, hb, hml, hown, htl, hX, hbl, hbA, hK, hstC, hstM, ⟨τC, hDC0⟩, ⟨τM, hDM0⟩, hdisC, hdisM, hcc, hss⟩ := G
  have hDC := aWl_D (σ' := σC) hDC0
  have hDM := aWl_D (σ' := σM) hDM0
  have hts : ∀ w ∈ GW, w.before args s = true := fun w hw => htl w (List.mem_filter.mp hw).1
  obtain ⟨hPC, hPM, hS, hl, i1, i2, i3, i4, i5⟩ := Z
  refine lv_aload_n hx hb dL_894 rfl (lv_at hl 1 rfl) ?_
  refine lv_aload_n hx hb dL_895 rfl (lv_at hl 0 rfl) ?_
  refine lv_iload_n hx hb dL_896 rfl (lv_at hl 3 rfl) ?_
  refine lv_iconst (v := (1 : Int32)) hx hb dL_897 (by decide) ?_
  refine lv_iadd hx hb dL_898 ?_
  refine va_sld hx hb hX hbl hbA hS i1 dL_899 ?_
  rw [ha1]
  refine lv_aload_n hx hb dL_900 rfl (lv_at hl 0 rfl) ?_
  refine lv_iload_n hx hb dL_901 rfl (lv_at hl 3 rfl) ?_
  refine lv_iconst (v := (2 : Int32)) hx hb dL_902 (by decide) ?_
  refine lv_iadd hx hb dL_903 ?_
  refine va_sld hx hb hX hbl hbA hS i2 dL_904 ?_
  rw [ha2]
  refine law_call (Λ := LC) (Λ2 := LM) (ad := adC) (ad2 := adM) (σ2 := σM) (rest := []) (as := [aI a1, aI a2]) hx hb hml hown hts hK hstC hDC hdisC hfC hlC hcc hss C1 wV_X10_begun wN_X10_begun (GW_4 4 rfl rfl) rfl rfl rfl (by decide) rfl hPC hPM hS hl.1 (Nat.le_of_ble_eq_true rfl) dL_905 (fun H locs hPC hPM hS => ?_)
  refine lv_aload_n hx hb dL_908 rfl (lv_at hl 2 rfl) ?_
  refine lv_aload_n hx hb dL_909 rfl (lv_at hl 0 rfl) ?_
  refine lv_iload_n hx hb dL_910 rfl (lv_at hl 3 rfl) ?_
  refine lv_iconst (v := (1 : Int32)) hx hb dL_911 (by decide) ?_
  refine lv_iadd hx hb dL_912 ?_
  refine va_sld hx hb hX hbl hbA hS i1 dL_913 ?_
  rw [ha1]
  refine lv_aload_n hx hb dL_914 rfl (lv_at hl 0 rfl) ?_
  refine lv_iload_n hx hb dL_915 rfl (lv_at hl 3 rfl) ?_
  refine lv_iconst (v := (2 : Int32)) hx hb dL_916 (by decide) ?_
  refine lv_iadd hx hb dL_917 ?_
  refine va_sld hx hb hX hbl hbA hS i2 dL_918 ?_
  rw [ha2]
  refine law_call (Λ := LM) (Λ2 := LC) (ad := adM) (ad2 := adC) (σ2 := σC1) (rest := [.long r]) (as := [aI a1, aI a2]) hx hb hml hown hts hK hstM hDM hdisM hfM hlM hcc hss C2 wV_X11_begun wN_X11_begun (GW_6 144 rfl rfl) rfl rfl rfl (by decide) rfl hPM hPC hS hl.1 (Nat.le_of_ble_eq_true rfl) dL_919 (fun H locs hPM hPC hS => ?_)
  refine W.lcmp hx hb dL_922 ?_
  refine lv_if_eq (tgt := 1549) hx hb dL_923 (by decide) (fun _ => ?_) (fun h => absurd (cmp_self r) h)
  exact kk _ _ hPC hPM hS
set_option maxRecDepth 100000 in
set_option maxHeartbeats 4000000 in
theorem law_c22 (G : LG p R s m args c D cs adC adM A b L xs cells slots) (Z : LZ s D cs adC adM A b L σC σM H locs ls x3) {r : Int32} {d1 d2 : Nat} {a1 : Int32} (ha1 : xs (x3 + 1).toNatClampNeg = a1) {a2 : Int32} (ha2 : xs (x3 + 2).toNatClampNeg = a2) (hfC : d1 + 1 ≤ R.frames) (hlC : 64 * (d1 + 1) ≤ R.locals) (hfM : d2 + 1 ≤ R.frames) (hlM : 64 * (d2 + 1) ≤ R.locals) (C1 : XM LC d1 M_X10_judge (aR 0 0 :: [aI a1, aI a2]) σC (some (aI r)) σC1) (C2 : XM LM d2 M_X11_judge (aR 0 0 :: [aI a1, aI a2]) σM (some (aI r)) σM1)
    (kk : ∀ (H1 : Heap) (locs1 : List Loc), va_P D vwCl (aWl LC cs adC σC1) H1 → va_P D vwCl (aWl LM cs adM σM1) H1 → va_S A s.heap H1 locs1 → W p l e R s m args below meth c H1 locs1 cells slots Q (F0 m 1549 ls [])) :
    W p l e R s m args below meth c H locs cells slots Q (F0 m 928 ls []) := by
  obtain ⟨hx, hb, hml, hown, htl, hX, hbl, hbA, hK, hstC, hstM, ⟨τC, hDC0⟩, ⟨τM, hDM0⟩, hdisC, hdisM, hcc, hss⟩ := G
  have hDC := aWl_D (σ' := σC) hDC0
  have hDM := aWl_D (σ' := σM) hDM0
  have hts : ∀ w ∈ GW, w.before args s = true := fun w hw => htl w (List.mem_filter.mp hw).1
  obtain ⟨hPC, hPM, hS, hl, i1, i2, i3, i4, i5⟩ := Z
  refine lv_aload_n hx hb dL_928 rfl (lv_at hl 1 rfl) ?_
  refine lv_aload_n hx hb dL_929 rfl (lv_at hl 0 rfl) ?_
  refine lv_iload_n hx hb dL_930 rfl (lv_at hl 3 rfl) ?_
  refine lv_iconst (v := (1 : Int32)) hx hb dL_931 (by decide) ?_
  refine lv_iadd hx hb dL_932 ?_
  refine va_sld hx hb hX hbl hbA hS i1 dL_933 ?_
  rw [ha1]
  refine lv_aload_n hx hb dL_934 rfl (lv_at hl 0 rfl) ?_
  refine lv_iload_n hx hb dL_935 rfl (lv_at hl 3 rfl) ?_
  refine lv_iconst (v := (2 : Int32)) hx hb dL_936 (by decide) ?_
  refine lv_iadd hx hb dL_937 ?_
  refine va_sld hx hb hX hbl hbA hS i2 dL_938 ?_
  rw [ha2]
  refine law_call (Λ := LC) (Λ2 := LM) (ad := adC) (ad2 := adM) (σ2 := σM) (rest := []) (as := [aI a1, aI a2]) hx hb hml hown hts hK hstC hDC hdisC hfC hlC hcc hss C1 wV_X10_judge wN_X10_judge (GW_4 17 rfl rfl) rfl rfl rfl (by decide) rfl hPC hPM hS hl.1 (Nat.le_of_ble_eq_true rfl) dL_939 (fun H locs hPC hPM hS => ?_)
  refine lv_aload_n hx hb dL_942 rfl (lv_at hl 2 rfl) ?_
  refine lv_aload_n hx hb dL_943 rfl (lv_at hl 0 rfl) ?_
  refine lv_iload_n hx hb dL_944 rfl (lv_at hl 3 rfl) ?_
  refine lv_iconst (v := (1 : Int32)) hx hb dL_945 (by decide) ?_
  refine lv_iadd hx hb dL_946 ?_
  refine va_sld hx hb hX hbl hbA hS i1 dL_947 ?_
  rw [ha1]
  refine lv_aload_n hx hb dL_948 rfl (lv_at hl 0 rfl) ?_
  refine lv_iload_n hx hb dL_949 rfl (lv_at hl 3 rfl) ?_
  refine lv_iconst (v := (2 : Int32)) hx hb dL_950 (by decide) ?_
  refine lv_iadd hx hb dL_951 ?_
  refine va_sld hx hb hX hbl hbA hS i2 dL_952 ?_
  rw [ha2]
  refine law_call (Λ := LM) (Λ2 := LC) (ad := adM) (ad2 := adC) (σ2 := σC1) (rest := [.int r]) (as := [aI a1, aI a2]) hx hb hml hown hts hK hstM hDM hdisM hfM hlM hcc hss C2 wV_X11_judge wN_X11_judge (GW_6 152 rfl rfl) rfl rfl rfl (by decide) rfl hPM hPC hS hl.1 (Nat.le_of_ble_eq_true rfl) dL_953 (fun H locs hPM hPC hS => ?_)
  refine lv_icmp_eq (tgt := 1549) hx hb dL_956 rfl (fun _ => ?_) (fun h => absurd rfl h)
  exact kk _ _ hPC hPM hS
set_option maxRecDepth 100000 in
set_option maxHeartbeats 4000000 in
theorem law_c23 (G : LG p R s m args c D cs adC adM A b L xs cells slots) (Z : LZ s D cs adC adM A b L σC σM H locs ls x3) {r : Int32} {d1 d2 : Nat} {a1 : Int32} (ha1 : xs (x3 + 1).toNatClampNeg = a1) {a2 : Int32} (ha2 : xs (x3 + 2).toNatClampNeg = a2) {a3 : Int32} (ha3 : xs (x3 + 3).toNatClampNeg = a3) (hfC : d1 + 1 ≤ R.frames) (hlC : 64 * (d1 + 1) ≤ R.locals) (hfM : d2 + 1 ≤ R.frames) (hlM : 64 * (d2 + 1) ≤ R.locals) (C1 : XM LC d1 M_X10_drawn (aR 0 0 :: [aI a1, aI a2, aI a3]) σC (some (aI r)) σC1) (C2 : XM LM d2 M_X11_drawn (aR 0 0 :: [aI a1, aI a2, aI a3]) σM (some (aI r)) σM1)
    (kk : ∀ (H1 : Heap) (locs1 : List Loc), va_P D vwCl (aWl LC cs adC σC1) H1 → va_P D vwCl (aWl LM cs adM σM1) H1 → va_S A s.heap H1 locs1 → W p l e R s m args below meth c H1 locs1 cells slots Q (F0 m 1549 ls [])) :
    W p l e R s m args below meth c H locs cells slots Q (F0 m 961 ls []) := by
  obtain ⟨hx, hb, hml, hown, htl, hX, hbl, hbA, hK, hstC, hstM, ⟨τC, hDC0⟩, ⟨τM, hDM0⟩, hdisC, hdisM, hcc, hss⟩ := G
  have hDC := aWl_D (σ' := σC) hDC0
  have hDM := aWl_D (σ' := σM) hDM0
  have hts : ∀ w ∈ GW, w.before args s = true := fun w hw => htl w (List.mem_filter.mp hw).1
  obtain ⟨hPC, hPM, hS, hl, i1, i2, i3, i4, i5⟩ := Z
  refine lv_aload_n hx hb dL_961 rfl (lv_at hl 1 rfl) ?_
  refine lv_aload_n hx hb dL_962 rfl (lv_at hl 0 rfl) ?_
  refine lv_iload_n hx hb dL_963 rfl (lv_at hl 3 rfl) ?_
  refine lv_iconst (v := (1 : Int32)) hx hb dL_964 (by decide) ?_
  refine lv_iadd hx hb dL_965 ?_
  refine va_sld hx hb hX hbl hbA hS i1 dL_966 ?_
  rw [ha1]
  refine lv_aload_n hx hb dL_967 rfl (lv_at hl 0 rfl) ?_
  refine lv_iload_n hx hb dL_968 rfl (lv_at hl 3 rfl) ?_
  refine lv_iconst (v := (2 : Int32)) hx hb dL_969 (by decide) ?_
  refine lv_iadd hx hb dL_970 ?_
  refine va_sld hx hb hX hbl hbA hS i2 dL_971 ?_
  rw [ha2]
  refine lv_aload_n hx hb dL_972 rfl (lv_at hl 0 rfl) ?_
  refine lv_iload_n hx hb dL_973 rfl (lv_at hl 3 rfl) ?_
  refine lv_iconst (v := (3 : Int32)) hx hb dL_974 (by decide) ?_
  refine lv_iadd hx hb dL_975 ?_
  refine va_sld hx hb hX hbl hbA hS i3 dL_976 ?_
  rw [ha3]
  refine law_call (Λ := LC) (Λ2 := LM) (ad := adC) (ad2 := adM) (σ2 := σM) (rest := []) (as := [aI a1, aI a2, aI a3]) hx hb hml hown hts hK hstC hDC hdisC hfC hlC hcc hss C1 wV_X10_drawn wN_X10_drawn (GW_4 22 rfl rfl) rfl rfl rfl (by decide) rfl hPC hPM hS hl.1 (Nat.le_of_ble_eq_true rfl) dL_977 (fun H locs hPC hPM hS => ?_)
  refine lv_aload_n hx hb dL_980 rfl (lv_at hl 2 rfl) ?_
  refine lv_aload_n hx hb dL_981 rfl (lv_at hl 0 rfl) ?_
  refine lv_iload_n hx hb dL_982 rfl (lv_at hl 3 rfl) ?_
  refine lv_iconst (v := (1 : Int32)) hx hb dL_983 (by decide) ?_
  refine lv_iadd hx hb dL_984 ?_
  refine va_sld hx hb hX hbl hbA hS i1 dL_985 ?_
  rw [ha1]
  refine lv_aload_n hx hb dL_986 rfl (lv_at hl 0 rfl) ?_
  refine lv_iload_n hx hb dL_987 rfl (lv_at hl 3 rfl) ?_
  refine lv_iconst (v := (2 : Int32)) hx hb dL_988 (by decide) ?_
  refine lv_iadd hx hb dL_989 ?_
  refine va_sld hx hb hX hbl hbA hS i2 dL_990 ?_
  rw [ha2]
  refine lv_aload_n hx hb dL_991 rfl (lv_at hl 0 rfl) ?_
  refine lv_iload_n hx hb dL_992 rfl (lv_at hl 3 rfl) ?_
  refine lv_iconst (v := (3 : Int32)) hx hb dL_993 (by decide) ?_
  refine lv_iadd hx hb dL_994 ?_
  refine va_sld hx hb hX hbl hbA hS i3 dL_995 ?_
  rw [ha3]
  refine law_call (Λ := LM) (Λ2 := LC) (ad := adM) (ad2 := adC) (σ2 := σC1) (rest := [.int r]) (as := [aI a1, aI a2, aI a3]) hx hb hml hown hts hK hstM hDM hdisM hfM hlM hcc hss C2 wV_X11_drawn wN_X11_drawn (GW_6 156 rfl rfl) rfl rfl rfl (by decide) rfl hPM hPC hS hl.1 (Nat.le_of_ble_eq_true rfl) dL_996 (fun H locs hPM hPC hS => ?_)
  refine lv_icmp_eq (tgt := 1549) hx hb dL_999 rfl (fun _ => ?_) (fun h => absurd rfl h)
  exact kk _ _ hPC hPM hS
set_option maxRecDepth 100000 in
set_option maxHeartbeats 4000000 in
theorem law_c24 (G : LG p R s m args c D cs adC adM A b L xs cells slots) (Z : LZ s D cs adC adM A b L σC σM H locs ls x3) {r : Int32} {d1 d2 : Nat} {a1 : Int32} (ha1 : xs (x3 + 1).toNatClampNeg = a1) {a2 : Int32} (ha2 : xs (x3 + 2).toNatClampNeg = a2) (hfC : d1 + 1 ≤ R.frames) (hlC : 64 * (d1 + 1) ≤ R.locals) (hfM : d2 + 1 ≤ R.frames) (hlM : 64 * (d2 + 1) ≤ R.locals) (C1 : XM LC d1 M_X10_out (aR 0 0 :: [aI a1, aI a2]) σC (some (aI r)) σC1) (C2 : XM LM d2 M_X11_out (aR 0 0 :: [aI a1, aI a2]) σM (some (aI r)) σM1)
    (kk : ∀ (H1 : Heap) (locs1 : List Loc), va_P D vwCl (aWl LC cs adC σC1) H1 → va_P D vwCl (aWl LM cs adM σM1) H1 → va_S A s.heap H1 locs1 → W p l e R s m args below meth c H1 locs1 cells slots Q (F0 m 1549 ls [])) :
    W p l e R s m args below meth c H locs cells slots Q (F0 m 1004 ls []) := by
  obtain ⟨hx, hb, hml, hown, htl, hX, hbl, hbA, hK, hstC, hstM, ⟨τC, hDC0⟩, ⟨τM, hDM0⟩, hdisC, hdisM, hcc, hss⟩ := G
  have hDC := aWl_D (σ' := σC) hDC0
  have hDM := aWl_D (σ' := σM) hDM0
  have hts : ∀ w ∈ GW, w.before args s = true := fun w hw => htl w (List.mem_filter.mp hw).1
  obtain ⟨hPC, hPM, hS, hl, i1, i2, i3, i4, i5⟩ := Z
  refine lv_aload_n hx hb dL_1004 rfl (lv_at hl 1 rfl) ?_
  refine lv_aload_n hx hb dL_1005 rfl (lv_at hl 0 rfl) ?_
  refine lv_iload_n hx hb dL_1006 rfl (lv_at hl 3 rfl) ?_
  refine lv_iconst (v := (1 : Int32)) hx hb dL_1007 (by decide) ?_
  refine lv_iadd hx hb dL_1008 ?_
  refine va_sld hx hb hX hbl hbA hS i1 dL_1009 ?_
  rw [ha1]
  refine lv_aload_n hx hb dL_1010 rfl (lv_at hl 0 rfl) ?_
  refine lv_iload_n hx hb dL_1011 rfl (lv_at hl 3 rfl) ?_
  refine lv_iconst (v := (2 : Int32)) hx hb dL_1012 (by decide) ?_
  refine lv_iadd hx hb dL_1013 ?_
  refine va_sld hx hb hX hbl hbA hS i2 dL_1014 ?_
  rw [ha2]
  refine law_call (Λ := LC) (Λ2 := LM) (ad := adC) (ad2 := adM) (σ2 := σM) (rest := []) (as := [aI a1, aI a2]) hx hb hml hown hts hK hstC hDC hdisC hfC hlC hcc hss C1 wV_X10_out wN_X10_out (GW_4 35 rfl rfl) rfl rfl rfl (by decide) rfl hPC hPM hS hl.1 (Nat.le_of_ble_eq_true rfl) dL_1015 (fun H locs hPC hPM hS => ?_)
  refine lv_aload_n hx hb dL_1018 rfl (lv_at hl 2 rfl) ?_
  refine lv_aload_n hx hb dL_1019 rfl (lv_at hl 0 rfl) ?_
  refine lv_iload_n hx hb dL_1020 rfl (lv_at hl 3 rfl) ?_
  refine lv_iconst (v := (1 : Int32)) hx hb dL_1021 (by decide) ?_
  refine lv_iadd hx hb dL_1022 ?_
  refine va_sld hx hb hX hbl hbA hS i1 dL_1023 ?_
  rw [ha1]
  refine lv_aload_n hx hb dL_1024 rfl (lv_at hl 0 rfl) ?_
  refine lv_iload_n hx hb dL_1025 rfl (lv_at hl 3 rfl) ?_
  refine lv_iconst (v := (2 : Int32)) hx hb dL_1026 (by decide) ?_
  refine lv_iadd hx hb dL_1027 ?_
  refine va_sld hx hb hX hbl hbA hS i2 dL_1028 ?_
  rw [ha2]
  refine law_call (Λ := LM) (Λ2 := LC) (ad := adM) (ad2 := adC) (σ2 := σC1) (rest := [.int r]) (as := [aI a1, aI a2]) hx hb hml hown hts hK hstM hDM hdisM hfM hlM hcc hss C2 wV_X11_out wN_X11_out (GW_6 161 rfl rfl) rfl rfl rfl (by decide) rfl hPM hPC hS hl.1 (Nat.le_of_ble_eq_true rfl) dL_1029 (fun H locs hPM hPC hS => ?_)
  refine lv_icmp_eq (tgt := 1549) hx hb dL_1032 rfl (fun _ => ?_) (fun h => absurd rfl h)
  exact kk _ _ hPC hPM hS
set_option maxRecDepth 100000 in
set_option maxHeartbeats 4000000 in
theorem law_c25 (G : LG p R s m args c D cs adC adM A b L xs cells slots) (Z : LZ s D cs adC adM A b L σC σM H locs ls x3) {r : Int32} {d1 d2 : Nat} {a1 : Int32} (ha1 : xs (x3 + 1).toNatClampNeg = a1) (hfC : d1 + 1 ≤ R.frames) (hlC : 64 * (d1 + 1) ≤ R.locals) (hfM : d2 + 1 ≤ R.frames) (hlM : 64 * (d2 + 1) ≤ R.locals) (C1 : XM LC d1 M_X10_pace (aR 0 0 :: [aI a1]) σC (some (aI r)) σC1) (C2 : XM LM d2 M_X11_pace (aR 0 0 :: [aI a1]) σM (some (aI r)) σM1)
    (kk : ∀ (H1 : Heap) (locs1 : List Loc), va_P D vwCl (aWl LC cs adC σC1) H1 → va_P D vwCl (aWl LM cs adM σM1) H1 → va_S A s.heap H1 locs1 → W p l e R s m args below meth c H1 locs1 cells slots Q (F0 m 1549 ls [])) :
    W p l e R s m args below meth c H locs cells slots Q (F0 m 1037 ls []) := by
  obtain ⟨hx, hb, hml, hown, htl, hX, hbl, hbA, hK, hstC, hstM, ⟨τC, hDC0⟩, ⟨τM, hDM0⟩, hdisC, hdisM, hcc, hss⟩ := G
  have hDC := aWl_D (σ' := σC) hDC0
  have hDM := aWl_D (σ' := σM) hDM0
  have hts : ∀ w ∈ GW, w.before args s = true := fun w hw => htl w (List.mem_filter.mp hw).1
  obtain ⟨hPC, hPM, hS, hl, i1, i2, i3, i4, i5⟩ := Z
  refine lv_aload_n hx hb dL_1037 rfl (lv_at hl 1 rfl) ?_
  refine lv_aload_n hx hb dL_1038 rfl (lv_at hl 0 rfl) ?_
  refine lv_iload_n hx hb dL_1039 rfl (lv_at hl 3 rfl) ?_
  refine lv_iconst (v := (1 : Int32)) hx hb dL_1040 (by decide) ?_
  refine lv_iadd hx hb dL_1041 ?_
  refine va_sld hx hb hX hbl hbA hS i1 dL_1042 ?_
  rw [ha1]
  refine law_call (Λ := LC) (Λ2 := LM) (ad := adC) (ad2 := adM) (σ2 := σM) (rest := []) (as := [aI a1]) hx hb hml hown hts hK hstC hDC hdisC hfC hlC hcc hss C1 wV_X10_pace wN_X10_pace (GW_4 62 rfl rfl) rfl rfl rfl (by decide) rfl hPC hPM hS hl.1 (Nat.le_of_ble_eq_true rfl) dL_1043 (fun H locs hPC hPM hS => ?_)
  refine lv_aload_n hx hb dL_1046 rfl (lv_at hl 2 rfl) ?_
  refine lv_aload_n hx hb dL_1047 rfl (lv_at hl 0 rfl) ?_
  refine lv_iload_n hx hb dL_1048 rfl (lv_at hl 3 rfl) ?_
  refine lv_iconst (v := (1 : Int32)) hx hb dL_1049 (by decide) ?_
  refine lv_iadd hx hb dL_1050 ?_
  refine va_sld hx hb hX hbl hbA hS i1 dL_1051 ?_
  rw [ha1]
  refine law_call (Λ := LM) (Λ2 := LC) (ad := adM) (ad2 := adC) (σ2 := σC1) (rest := [.int r]) (as := [aI a1]) hx hb hml hown hts hK hstM hDM hdisM hfM hlM hcc hss C2 wV_X11_pace wN_X11_pace (GW_6 169 rfl rfl) rfl rfl rfl (by decide) rfl hPM hPC hS hl.1 (Nat.le_of_ble_eq_true rfl) dL_1052 (fun H locs hPM hPC hS => ?_)
  refine lv_icmp_eq (tgt := 1549) hx hb dL_1055 rfl (fun _ => ?_) (fun h => absurd rfl h)
  exact kk _ _ hPC hPM hS
set_option maxRecDepth 100000 in
set_option maxHeartbeats 4000000 in
theorem law_c26 (G : LG p R s m args c D cs adC adM A b L xs cells slots) (Z : LZ s D cs adC adM A b L σC σM H locs ls x3) {r : Int32} {d1 d2 : Nat} {a1 : Int32} (ha1 : xs (x3 + 1).toNatClampNeg = a1) (hfC : d1 + 1 ≤ R.frames) (hlC : 64 * (d1 + 1) ≤ R.locals) (hfM : d2 + 1 ≤ R.frames) (hlM : 64 * (d2 + 1) ≤ R.locals) (C1 : XM LC d1 M_X10_rest (aR 0 0 :: [aI a1]) σC (some (aI r)) σC1) (C2 : XM LM d2 M_X11_rest (aR 0 0 :: [aI a1]) σM (some (aI r)) σM1)
    (kk : ∀ (H1 : Heap) (locs1 : List Loc), va_P D vwCl (aWl LC cs adC σC1) H1 → va_P D vwCl (aWl LM cs adM σM1) H1 → va_S A s.heap H1 locs1 → W p l e R s m args below meth c H1 locs1 cells slots Q (F0 m 1549 ls [])) :
    W p l e R s m args below meth c H locs cells slots Q (F0 m 1060 ls []) := by
  obtain ⟨hx, hb, hml, hown, htl, hX, hbl, hbA, hK, hstC, hstM, ⟨τC, hDC0⟩, ⟨τM, hDM0⟩, hdisC, hdisM, hcc, hss⟩ := G
  have hDC := aWl_D (σ' := σC) hDC0
  have hDM := aWl_D (σ' := σM) hDM0
  have hts : ∀ w ∈ GW, w.before args s = true := fun w hw => htl w (List.mem_filter.mp hw).1
  obtain ⟨hPC, hPM, hS, hl, i1, i2, i3, i4, i5⟩ := Z
  refine lv_aload_n hx hb dL_1060 rfl (lv_at hl 1 rfl) ?_
  refine lv_aload_n hx hb dL_1061 rfl (lv_at hl 0 rfl) ?_
  refine lv_iload_n hx hb dL_1062 rfl (lv_at hl 3 rfl) ?_
  refine lv_iconst (v := (1 : Int32)) hx hb dL_1063 (by decide) ?_
  refine lv_iadd hx hb dL_1064 ?_
  refine va_sld hx hb hX hbl hbA hS i1 dL_1065 ?_
  rw [ha1]
  refine law_call (Λ := LC) (Λ2 := LM) (ad := adC) (ad2 := adM) (σ2 := σM) (rest := []) (as := [aI a1]) hx hb hml hown hts hK hstC hDC hdisC hfC hlC hcc hss C1 wV_X10_rest wN_X10_rest (GW_4 70 rfl rfl) rfl rfl rfl (by decide) rfl hPC hPM hS hl.1 (Nat.le_of_ble_eq_true rfl) dL_1066 (fun H locs hPC hPM hS => ?_)
  refine lv_aload_n hx hb dL_1069 rfl (lv_at hl 2 rfl) ?_
  refine lv_aload_n hx hb dL_1070 rfl (lv_at hl 0 rfl) ?_
  refine lv_iload_n hx hb dL_1071 rfl (lv_at hl 3 rfl) ?_
  refine lv_iconst (v := (1 : Int32)) hx hb dL_1072 (by decide) ?_
  refine lv_iadd hx hb dL_1073 ?_
  refine va_sld hx hb hX hbl hbA hS i1 dL_1074 ?_
  rw [ha1]
  refine law_call (Λ := LM) (Λ2 := LC) (ad := adM) (ad2 := adC) (σ2 := σC1) (rest := [.int r]) (as := [aI a1]) hx hb hml hown hts hK hstM hDM hdisM hfM hlM hcc hss C2 wV_X11_rest wN_X11_rest (GW_6 173 rfl rfl) rfl rfl rfl (by decide) rfl hPM hPC hS hl.1 (Nat.le_of_ble_eq_true rfl) dL_1075 (fun H locs hPM hPC hS => ?_)
  refine lv_icmp_eq (tgt := 1549) hx hb dL_1078 rfl (fun _ => ?_) (fun h => absurd rfl h)
  exact kk _ _ hPC hPM hS
set_option maxRecDepth 100000 in
set_option maxHeartbeats 4000000 in
theorem law_c27 (G : LG p R s m args c D cs adC adM A b L xs cells slots) (Z : LZ s D cs adC adM A b L σC σM H locs ls x3) {r : Int32} {d1 d2 : Nat} {a1 : Int32} (ha1 : xs (x3 + 1).toNatClampNeg = a1) (hfC : d1 + 1 ≤ R.frames) (hlC : 64 * (d1 + 1) ≤ R.locals) (hfM : d2 + 1 ≤ R.frames) (hlM : 64 * (d2 + 1) ≤ R.locals) (C1 : XM LC d1 M_X10_led (aR 0 0 :: [aI a1]) σC (some (aI r)) σC1) (C2 : XM LM d2 M_X11_led (aR 0 0 :: [aI a1]) σM (some (aI r)) σM1)
    (kk : ∀ (H1 : Heap) (locs1 : List Loc), va_P D vwCl (aWl LC cs adC σC1) H1 → va_P D vwCl (aWl LM cs adM σM1) H1 → va_S A s.heap H1 locs1 → W p l e R s m args below meth c H1 locs1 cells slots Q (F0 m 1549 ls [])) :
    W p l e R s m args below meth c H locs cells slots Q (F0 m 1083 ls []) := by
  obtain ⟨hx, hb, hml, hown, htl, hX, hbl, hbA, hK, hstC, hstM, ⟨τC, hDC0⟩, ⟨τM, hDM0⟩, hdisC, hdisM, hcc, hss⟩ := G
  have hDC := aWl_D (σ' := σC) hDC0
  have hDM := aWl_D (σ' := σM) hDM0
  have hts : ∀ w ∈ GW, w.before args s = true := fun w hw => htl w (List.mem_filter.mp hw).1
  obtain ⟨hPC, hPM, hS, hl, i1, i2, i3, i4, i5⟩ := Z
  refine lv_aload_n hx hb dL_1083 rfl (lv_at hl 1 rfl) ?_
  refine lv_aload_n hx hb dL_1084 rfl (lv_at hl 0 rfl) ?_
  refine lv_iload_n hx hb dL_1085 rfl (lv_at hl 3 rfl) ?_
  refine lv_iconst (v := (1 : Int32)) hx hb dL_1086 (by decide) ?_
  refine lv_iadd hx hb dL_1087 ?_
  refine va_sld hx hb hX hbl hbA hS i1 dL_1088 ?_
  rw [ha1]
  refine law_call (Λ := LC) (Λ2 := LM) (ad := adC) (ad2 := adM) (σ2 := σM) (rest := []) (as := [aI a1]) hx hb hml hown hts hK hstC hDC hdisC hfC hlC hcc hss C1 wV_X10_led wN_X10_led (GW_4 78 rfl rfl) rfl rfl rfl (by decide) rfl hPC hPM hS hl.1 (Nat.le_of_ble_eq_true rfl) dL_1089 (fun H locs hPC hPM hS => ?_)
  refine lv_aload_n hx hb dL_1092 rfl (lv_at hl 2 rfl) ?_
  refine lv_aload_n hx hb dL_1093 rfl (lv_at hl 0 rfl) ?_
  refine lv_iload_n hx hb dL_1094 rfl (lv_at hl 3 rfl) ?_
  refine lv_iconst (v := (1 : Int32)) hx hb dL_1095 (by decide) ?_
  refine lv_iadd hx hb dL_1096 ?_
  refine va_sld hx hb hX hbl hbA hS i1 dL_1097 ?_
  rw [ha1]
  refine law_call (Λ := LM) (Λ2 := LC) (ad := adM) (ad2 := adC) (σ2 := σC1) (rest := [.int r]) (as := [aI a1]) hx hb hml hown hts hK hstM hDM hdisM hfM hlM hcc hss C2 wV_X11_led wN_X11_led (GW_6 177 rfl rfl) rfl rfl rfl (by decide) rfl hPM hPC hS hl.1 (Nat.le_of_ble_eq_true rfl) dL_1098 (fun H locs hPM hPC hS => ?_)
  refine lv_icmp_eq (tgt := 1549) hx hb dL_1101 rfl (fun _ => ?_) (fun h => absurd rfl h)
  exact kk _ _ hPC hPM hS
set_option maxRecDepth 100000 in
set_option maxHeartbeats 4000000 in
theorem law_c28 (G : LG p R s m args c D cs adC adM A b L xs cells slots) (Z : LZ s D cs adC adM A b L σC σM H locs ls x3) {r : Int32} {d1 d2 : Nat} (hfC : d1 + 1 ≤ R.frames) (hlC : 64 * (d1 + 1) ≤ R.locals) (hfM : d2 + 1 ≤ R.frames) (hlM : 64 * (d2 + 1) ≤ R.locals) (C1 : XM LC d1 M_X10_image (aR 0 0 :: []) σC (some (aI r)) σC1) (C2 : XM LM d2 M_X11_image (aR 0 0 :: []) σM (some (aI r)) σM1)
    (kk : ∀ (H1 : Heap) (locs1 : List Loc), va_P D vwCl (aWl LC cs adC σC1) H1 → va_P D vwCl (aWl LM cs adM σM1) H1 → va_S A s.heap H1 locs1 → W p l e R s m args below meth c H1 locs1 cells slots Q (F0 m 1549 ls [])) :
    W p l e R s m args below meth c H locs cells slots Q (F0 m 1106 ls []) := by
  obtain ⟨hx, hb, hml, hown, htl, hX, hbl, hbA, hK, hstC, hstM, ⟨τC, hDC0⟩, ⟨τM, hDM0⟩, hdisC, hdisM, hcc, hss⟩ := G
  have hDC := aWl_D (σ' := σC) hDC0
  have hDM := aWl_D (σ' := σM) hDM0
  have hts : ∀ w ∈ GW, w.before args s = true := fun w hw => htl w (List.mem_filter.mp hw).1
  obtain ⟨hPC, hPM, hS, hl, i1, i2, i3, i4, i5⟩ := Z
  refine lv_aload_n hx hb dL_1106 rfl (lv_at hl 1 rfl) ?_
  refine law_call (Λ := LC) (Λ2 := LM) (ad := adC) (ad2 := adM) (σ2 := σM) (rest := []) (as := []) hx hb hml hown hts hK hstC hDC hdisC hfC hlC hcc hss C1 wV_X10_image wN_X10_image (GW_4 86 rfl rfl) rfl rfl rfl (by decide) rfl hPC hPM hS hl.1 (Nat.le_of_ble_eq_true rfl) dL_1107 (fun H locs hPC hPM hS => ?_)
  refine lv_aload_n hx hb dL_1110 rfl (lv_at hl 2 rfl) ?_
  refine law_call (Λ := LM) (Λ2 := LC) (ad := adM) (ad2 := adC) (σ2 := σC1) (rest := [.int r]) (as := []) hx hb hml hown hts hK hstM hDM hdisM hfM hlM hcc hss C2 wV_X11_image wN_X11_image (GW_6 181 rfl rfl) rfl rfl rfl (by decide) rfl hPM hPC hS hl.1 (Nat.le_of_ble_eq_true rfl) dL_1111 (fun H locs hPM hPC hS => ?_)
  refine lv_icmp_eq (tgt := 1549) hx hb dL_1114 rfl (fun _ => ?_) (fun h => absurd rfl h)
  exact kk _ _ hPC hPM hS
set_option maxRecDepth 100000 in
set_option maxHeartbeats 4000000 in
theorem law_c29 (G : LG p R s m args c D cs adC adM A b L xs cells slots) (Z : LZ s D cs adC adM A b L σC σM H locs ls x3) {r : Int32} {d1 d2 : Nat} (hfC : d1 + 1 ≤ R.frames) (hlC : 64 * (d1 + 1) ≤ R.locals) (hfM : d2 + 1 ≤ R.frames) (hlM : 64 * (d2 + 1) ≤ R.locals) (C1 : XM LC d1 M_X10_back (aR 0 0 :: []) σC (some (aI r)) σC1) (C2 : XM LM d2 M_X11_back (aR 0 0 :: []) σM (some (aI r)) σM1)
    (kk : ∀ (H1 : Heap) (locs1 : List Loc), va_P D vwCl (aWl LC cs adC σC1) H1 → va_P D vwCl (aWl LM cs adM σM1) H1 → va_S A s.heap H1 locs1 → W p l e R s m args below meth c H1 locs1 cells slots Q (F0 m 1549 ls [])) :
    W p l e R s m args below meth c H locs cells slots Q (F0 m 1119 ls []) := by
  obtain ⟨hx, hb, hml, hown, htl, hX, hbl, hbA, hK, hstC, hstM, ⟨τC, hDC0⟩, ⟨τM, hDM0⟩, hdisC, hdisM, hcc, hss⟩ := G
  have hDC := aWl_D (σ' := σC) hDC0
  have hDM := aWl_D (σ' := σM) hDM0
  have hts : ∀ w ∈ GW, w.before args s = true := fun w hw => htl w (List.mem_filter.mp hw).1
  obtain ⟨hPC, hPM, hS, hl, i1, i2, i3, i4, i5⟩ := Z
  refine lv_aload_n hx hb dL_1119 rfl (lv_at hl 1 rfl) ?_
  refine law_call (Λ := LC) (Λ2 := LM) (ad := adC) (ad2 := adM) (σ2 := σM) (rest := []) (as := []) hx hb hml hown hts hK hstC hDC hdisC hfC hlC hcc hss C1 wV_X10_back wN_X10_back (GW_4 94 rfl rfl) rfl rfl rfl (by decide) rfl hPC hPM hS hl.1 (Nat.le_of_ble_eq_true rfl) dL_1120 (fun H locs hPC hPM hS => ?_)
  refine lv_aload_n hx hb dL_1123 rfl (lv_at hl 2 rfl) ?_
  refine law_call (Λ := LM) (Λ2 := LC) (ad := adM) (ad2 := adC) (σ2 := σC1) (rest := [.int r]) (as := []) hx hb hml hown hts hK hstM hDM hdisM hfM hlM hcc hss C2 wV_X11_back wN_X11_back (GW_6 186 rfl rfl) rfl rfl rfl (by decide) rfl hPM hPC hS hl.1 (Nat.le_of_ble_eq_true rfl) dL_1124 (fun H locs hPM hPC hS => ?_)
  refine lv_icmp_eq (tgt := 1549) hx hb dL_1127 rfl (fun _ => ?_) (fun h => absurd rfl h)
  exact kk _ _ hPC hPM hS
set_option maxRecDepth 100000 in
set_option maxHeartbeats 4000000 in
theorem law_c30 (G : LG p R s m args c D cs adC adM A b L xs cells slots) (Z : LZ s D cs adC adM A b L σC σM H locs ls x3) {r : Int32} {d1 d2 : Nat} (hfC : d1 + 1 ≤ R.frames) (hlC : 64 * (d1 + 1) ≤ R.locals) (hfM : d2 + 1 ≤ R.frames) (hlM : 64 * (d2 + 1) ≤ R.locals) (C1 : XM LC d1 M_X10_undo (aR 0 0 :: []) σC (some (aI r)) σC1) (C2 : XM LM d2 M_X11_undo (aR 0 0 :: []) σM (some (aI r)) σM1)
    (kk : ∀ (H1 : Heap) (locs1 : List Loc), va_P D vwCl (aWl LC cs adC σC1) H1 → va_P D vwCl (aWl LM cs adM σM1) H1 → va_S A s.heap H1 locs1 → W p l e R s m args below meth c H1 locs1 cells slots Q (F0 m 1549 ls [])) :
    W p l e R s m args below meth c H locs cells slots Q (F0 m 1132 ls []) := by
  obtain ⟨hx, hb, hml, hown, htl, hX, hbl, hbA, hK, hstC, hstM, ⟨τC, hDC0⟩, ⟨τM, hDM0⟩, hdisC, hdisM, hcc, hss⟩ := G
  have hDC := aWl_D (σ' := σC) hDC0
  have hDM := aWl_D (σ' := σM) hDM0
  have hts : ∀ w ∈ GW, w.before args s = true := fun w hw => htl w (List.mem_filter.mp hw).1
  obtain ⟨hPC, hPM, hS, hl, i1, i2, i3, i4, i5⟩ := Z
  refine lv_aload_n hx hb dL_1132 rfl (lv_at hl 1 rfl) ?_
  refine law_call (Λ := LC) (Λ2 := LM) (ad := adC) (ad2 := adM) (σ2 := σM) (rest := []) (as := []) hx hb hml hown hts hK hstC hDC hdisC hfC hlC hcc hss C1 wV_X10_undo wN_X10_undo (GW_4 98 rfl rfl) rfl rfl rfl (by decide) rfl hPC hPM hS hl.1 (Nat.le_of_ble_eq_true rfl) dL_1133 (fun H locs hPC hPM hS => ?_)
  refine lv_aload_n hx hb dL_1136 rfl (lv_at hl 2 rfl) ?_
  refine law_call (Λ := LM) (Λ2 := LC) (ad := adM) (ad2 := adC) (σ2 := σC1) (rest := [.int r]) (as := []) hx hb hml hown hts hK hstM hDM hdisM hfM hlM hcc hss C2 wV_X11_undo wN_X11_undo (GW_5 125 rfl rfl) rfl rfl rfl (by decide) rfl hPM hPC hS hl.1 (Nat.le_of_ble_eq_true rfl) dL_1137 (fun H locs hPM hPC hS => ?_)
  refine lv_icmp_eq (tgt := 1549) hx hb dL_1140 rfl (fun _ => ?_) (fun h => absurd rfl h)
  exact kk _ _ hPC hPM hS
set_option maxRecDepth 100000 in
set_option maxHeartbeats 4000000 in
theorem law_c31 (G : LG p R s m args c D cs adC adM A b L xs cells slots) (Z : LZ s D cs adC adM A b L σC σM H locs ls x3) {r : Int32} {d1 d2 : Nat} (hfC : d1 + 1 ≤ R.frames) (hlC : 64 * (d1 + 1) ≤ R.locals) (hfM : d2 + 1 ≤ R.frames) (hlM : 64 * (d2 + 1) ≤ R.locals) (C1 : XM LC d1 M_X10_redo (aR 0 0 :: []) σC (some (aI r)) σC1) (C2 : XM LM d2 M_X11_redo (aR 0 0 :: []) σM (some (aI r)) σM1)
    (kk : ∀ (H1 : Heap) (locs1 : List Loc), va_P D vwCl (aWl LC cs adC σC1) H1 → va_P D vwCl (aWl LM cs adM σM1) H1 → va_S A s.heap H1 locs1 → W p l e R s m args below meth c H1 locs1 cells slots Q (F0 m 1549 ls [])) :
    W p l e R s m args below meth c H locs cells slots Q (F0 m 1145 ls []) := by
  obtain ⟨hx, hb, hml, hown, htl, hX, hbl, hbA, hK, hstC, hstM, ⟨τC, hDC0⟩, ⟨τM, hDM0⟩, hdisC, hdisM, hcc, hss⟩ := G
  have hDC := aWl_D (σ' := σC) hDC0
  have hDM := aWl_D (σ' := σM) hDM0
  have hts : ∀ w ∈ GW, w.before args s = true := fun w hw => htl w (List.mem_filter.mp hw).1
  obtain ⟨hPC, hPM, hS, hl, i1, i2, i3, i4, i5⟩ := Z
  refine lv_aload_n hx hb dL_1145 rfl (lv_at hl 1 rfl) ?_
  refine law_call (Λ := LC) (Λ2 := LM) (ad := adC) (ad2 := adM) (σ2 := σM) (rest := []) (as := []) hx hb hml hown hts hK hstC hDC hdisC hfC hlC hcc hss C1 wV_X10_redo wN_X10_redo (GW_4 107 rfl rfl) rfl rfl rfl (by decide) rfl hPC hPM hS hl.1 (Nat.le_of_ble_eq_true rfl) dL_1146 (fun H locs hPC hPM hS => ?_)
  refine lv_aload_n hx hb dL_1149 rfl (lv_at hl 2 rfl) ?_
  refine law_call (Λ := LM) (Λ2 := LC) (ad := adM) (ad2 := adC) (σ2 := σC1) (rest := [.int r]) (as := []) hx hb hml hown hts hK hstM hDM hdisM hfM hlM hcc hss C2 wV_X11_redo wN_X11_redo (GW_5 129 rfl rfl) rfl rfl rfl (by decide) rfl hPM hPC hS hl.1 (Nat.le_of_ble_eq_true rfl) dL_1150 (fun H locs hPM hPC hS => ?_)
  refine lv_icmp_eq (tgt := 1549) hx hb dL_1153 rfl (fun _ => ?_) (fun h => absurd rfl h)
  exact kk _ _ hPC hPM hS
set_option maxRecDepth 100000 in
set_option maxHeartbeats 4000000 in
theorem law_c32 (G : LG p R s m args c D cs adC adM A b L xs cells slots) (Z : LZ s D cs adC adM A b L σC σM H locs ls x3) {r : Int32} {d1 d2 : Nat} {a1 : Int32} (ha1 : xs (x3 + 1).toNatClampNeg = a1) (hfC : d1 + 1 ≤ R.frames) (hlC : 64 * (d1 + 1) ≤ R.locals) (hfM : d2 + 1 ≤ R.frames) (hlM : 64 * (d2 + 1) ≤ R.locals) (C1 : XM LC d1 M_X10_body (aR 0 0 :: [aI a1]) σC (some (aI r)) σC1) (C2 : XM LM d2 M_X11_body (aR 0 0 :: [aI a1]) σM (some (aI r)) σM1)
    (kk : ∀ (H1 : Heap) (locs1 : List Loc), va_P D vwCl (aWl LC cs adC σC1) H1 → va_P D vwCl (aWl LM cs adM σM1) H1 → va_S A s.heap H1 locs1 → W p l e R s m args below meth c H1 locs1 cells slots Q (F0 m 1549 ls [])) :
    W p l e R s m args below meth c H locs cells slots Q (F0 m 1158 ls []) := by
  obtain ⟨hx, hb, hml, hown, htl, hX, hbl, hbA, hK, hstC, hstM, ⟨τC, hDC0⟩, ⟨τM, hDM0⟩, hdisC, hdisM, hcc, hss⟩ := G
  have hDC := aWl_D (σ' := σC) hDC0
  have hDM := aWl_D (σ' := σM) hDM0
  have hts : ∀ w ∈ GW, w.before args s = true := fun w hw => htl w (List.mem_filter.mp hw).1
  obtain ⟨hPC, hPM, hS, hl, i1, i2, i3, i4, i5⟩ := Z
  refine lv_aload_n hx hb dL_1158 rfl (lv_at hl 1 rfl) ?_
  refine lv_aload_n hx hb dL_1159 rfl (lv_at hl 0 rfl) ?_
  refine lv_iload_n hx hb dL_1160 rfl (lv_at hl 3 rfl) ?_
  refine lv_iconst (v := (1 : Int32)) hx hb dL_1161 (by decide) ?_
  refine lv_iadd hx hb dL_1162 ?_
  refine va_sld hx hb hX hbl hbA hS i1 dL_1163 ?_
  rw [ha1]
  refine law_call (Λ := LC) (Λ2 := LM) (ad := adC) (ad2 := adM) (σ2 := σM) (rest := []) (as := [aI a1]) hx hb hml hown hts hK hstC hDC hdisC hfC hlC hcc hss C1 wV_X10_body wN_X10_body (GW_4 115 rfl rfl) rfl rfl rfl (by decide) rfl hPC hPM hS hl.1 (Nat.le_of_ble_eq_true rfl) dL_1164 (fun H locs hPC hPM hS => ?_)
  refine lv_aload_n hx hb dL_1167 rfl (lv_at hl 2 rfl) ?_
  refine lv_aload_n hx hb dL_1168 rfl (lv_at hl 0 rfl) ?_
  refine lv_iload_n hx hb dL_1169 rfl (lv_at hl 3 rfl) ?_
  refine lv_iconst (v := (1 : Int32)) hx hb dL_1170 (by decide) ?_
  refine lv_iadd hx hb dL_1171 ?_
  refine va_sld hx hb hX hbl hbA hS i1 dL_1172 ?_
  rw [ha1]
  refine law_call (Λ := LM) (Λ2 := LC) (ad := adM) (ad2 := adC) (σ2 := σC1) (rest := [.int r]) (as := [aI a1]) hx hb hml hown hts hK hstM hDM hdisM hfM hlM hcc hss C2 wV_X11_body wN_X11_body (GW_6 190 rfl rfl) rfl rfl rfl (by decide) rfl hPM hPC hS hl.1 (Nat.le_of_ble_eq_true rfl) dL_1173 (fun H locs hPM hPC hS => ?_)
  refine lv_icmp_eq (tgt := 1549) hx hb dL_1176 rfl (fun _ => ?_) (fun h => absurd rfl h)
  exact kk _ _ hPC hPM hS
set_option maxRecDepth 100000 in
set_option maxHeartbeats 4000000 in
theorem law_c33 (G : LG p R s m args c D cs adC adM A b L xs cells slots) (Z : LZ s D cs adC adM A b L σC σM H locs ls x3) {r : Int32} {d1 d2 : Nat} {a1 : Int32} (ha1 : xs (x3 + 1).toNatClampNeg = a1) {a2 : Int32} (ha2 : xs (x3 + 2).toNatClampNeg = a2) {a3 : Int32} (ha3 : xs (x3 + 3).toNatClampNeg = a3) (hfC : d1 + 1 ≤ R.frames) (hlC : 64 * (d1 + 1) ≤ R.locals) (hfM : d2 + 1 ≤ R.frames) (hlM : 64 * (d2 + 1) ≤ R.locals) (C1 : XM LC d1 M_X10_act (aR 0 0 :: [aI a1, aI a2, aI a3]) σC (some (aI r)) σC1) (C2 : XM LM d2 M_X11_act (aR 0 0 :: [aI a1, aI a2, aI a3]) σM (some (aI r)) σM1)
    (kk : ∀ (H1 : Heap) (locs1 : List Loc), va_P D vwCl (aWl LC cs adC σC1) H1 → va_P D vwCl (aWl LM cs adM σM1) H1 → va_S A s.heap H1 locs1 → W p l e R s m args below meth c H1 locs1 cells slots Q (F0 m 1549 ls [])) :
    W p l e R s m args below meth c H locs cells slots Q (F0 m 1181 ls []) := by
  obtain ⟨hx, hb, hml, hown, htl, hX, hbl, hbA, hK, hstC, hstM, ⟨τC, hDC0⟩, ⟨τM, hDM0⟩, hdisC, hdisM, hcc, hss⟩ := G
  have hDC := aWl_D (σ' := σC) hDC0
  have hDM := aWl_D (σ' := σM) hDM0
  have hts : ∀ w ∈ GW, w.before args s = true := fun w hw => htl w (List.mem_filter.mp hw).1
  obtain ⟨hPC, hPM, hS, hl, i1, i2, i3, i4, i5⟩ := Z
  refine lv_aload_n hx hb dL_1181 rfl (lv_at hl 1 rfl) ?_
  refine lv_aload_n hx hb dL_1182 rfl (lv_at hl 0 rfl) ?_
  refine lv_iload_n hx hb dL_1183 rfl (lv_at hl 3 rfl) ?_
  refine lv_iconst (v := (1 : Int32)) hx hb dL_1184 (by decide) ?_
  refine lv_iadd hx hb dL_1185 ?_
  refine va_sld hx hb hX hbl hbA hS i1 dL_1186 ?_
  rw [ha1]
  refine lv_aload_n hx hb dL_1187 rfl (lv_at hl 0 rfl) ?_
  refine lv_iload_n hx hb dL_1188 rfl (lv_at hl 3 rfl) ?_
  refine lv_iconst (v := (2 : Int32)) hx hb dL_1189 (by decide) ?_
  refine lv_iadd hx hb dL_1190 ?_
  refine va_sld hx hb hX hbl hbA hS i2 dL_1191 ?_
  rw [ha2]
  refine lv_aload_n hx hb dL_1192 rfl (lv_at hl 0 rfl) ?_
  refine lv_iload_n hx hb dL_1193 rfl (lv_at hl 3 rfl) ?_
  refine lv_iconst (v := (3 : Int32)) hx hb dL_1194 (by decide) ?_
  refine lv_iadd hx hb dL_1195 ?_
  refine va_sld hx hb hX hbl hbA hS i3 dL_1196 ?_
  rw [ha3]
  refine law_call (Λ := LC) (Λ2 := LM) (ad := adC) (ad2 := adM) (σ2 := σM) (rest := []) (as := [aI a1, aI a2, aI a3]) hx hb hml hown hts hK hstC hDC hdisC hfC hlC hcc hss C1 wV_X10_act wN_X10_act (GW_4 123 rfl rfl) rfl rfl rfl (by decide) rfl hPC hPM hS hl.1 (Nat.le_of_ble_eq_true rfl) dL_1197 (fun H locs hPC hPM hS => ?_)
  refine lv_aload_n hx hb dL_1200 rfl (lv_at hl 2 rfl) ?_
  refine lv_aload_n hx hb dL_1201 rfl (lv_at hl 0 rfl) ?_
  refine lv_iload_n hx hb dL_1202 rfl (lv_at hl 3 rfl) ?_
  refine lv_iconst (v := (1 : Int32)) hx hb dL_1203 (by decide) ?_
  refine lv_iadd hx hb dL_1204 ?_
  refine va_sld hx hb hX hbl hbA hS i1 dL_1205 ?_
  rw [ha1]
  refine lv_aload_n hx hb dL_1206 rfl (lv_at hl 0 rfl) ?_
  refine lv_iload_n hx hb dL_1207 rfl (lv_at hl 3 rfl) ?_
  refine lv_iconst (v := (2 : Int32)) hx hb dL_1208 (by decide) ?_
  refine lv_iadd hx hb dL_1209 ?_
  refine va_sld hx hb hX hbl hbA hS i2 dL_1210 ?_
  rw [ha2]
  refine lv_aload_n hx hb dL_1211 rfl (lv_at hl 0 rfl) ?_
  refine lv_iload_n hx hb dL_1212 rfl (lv_at hl 3 rfl) ?_
  refine lv_iconst (v := (3 : Int32)) hx hb dL_1213 (by decide) ?_
  refine lv_iadd hx hb dL_1214 ?_
  refine va_sld hx hb hX hbl hbA hS i3 dL_1215 ?_
  rw [ha3]
  refine law_call (Λ := LM) (Λ2 := LC) (ad := adM) (ad2 := adC) (σ2 := σC1) (rest := [.int r]) (as := [aI a1, aI a2, aI a3]) hx hb hml hown hts hK hstM hDM hdisM hfM hlM hcc hss C2 wV_X11_act wN_X11_act (GW_6 194 rfl rfl) rfl rfl rfl (by decide) rfl hPM hPC hS hl.1 (Nat.le_of_ble_eq_true rfl) dL_1216 (fun H locs hPM hPC hS => ?_)
  refine lv_icmp_eq (tgt := 1549) hx hb dL_1219 rfl (fun _ => ?_) (fun h => absurd rfl h)
  exact kk _ _ hPC hPM hS
set_option maxRecDepth 100000 in
set_option maxHeartbeats 4000000 in
theorem law_c34 (G : LG p R s m args c D cs adC adM A b L xs cells slots) (Z : LZ s D cs adC adM A b L σC σM H locs ls x3) {r : Int32} {d1 d2 : Nat} {a1 : Int32} (ha1 : xs (x3 + 1).toNatClampNeg = a1) (hfC : d1 + 1 ≤ R.frames) (hlC : 64 * (d1 + 1) ≤ R.locals) (hfM : d2 + 1 ≤ R.frames) (hlM : 64 * (d2 + 1) ≤ R.locals) (C1 : XM LC d1 M_X10_trace (aR 0 0 :: [aI a1]) σC (some (aI r)) σC1) (C2 : XM LM d2 M_X11_trace (aR 0 0 :: [aI a1]) σM (some (aI r)) σM1)
    (kk : ∀ (H1 : Heap) (locs1 : List Loc), va_P D vwCl (aWl LC cs adC σC1) H1 → va_P D vwCl (aWl LM cs adM σM1) H1 → va_S A s.heap H1 locs1 → W p l e R s m args below meth c H1 locs1 cells slots Q (F0 m 1549 ls [])) :
    W p l e R s m args below meth c H locs cells slots Q (F0 m 1224 ls []) := by
  obtain ⟨hx, hb, hml, hown, htl, hX, hbl, hbA, hK, hstC, hstM, ⟨τC, hDC0⟩, ⟨τM, hDM0⟩, hdisC, hdisM, hcc, hss⟩ := G
  have hDC := aWl_D (σ' := σC) hDC0
  have hDM := aWl_D (σ' := σM) hDM0
  have hts : ∀ w ∈ GW, w.before args s = true := fun w hw => htl w (List.mem_filter.mp hw).1
  obtain ⟨hPC, hPM, hS, hl, i1, i2, i3, i4, i5⟩ := Z
  refine lv_aload_n hx hb dL_1224 rfl (lv_at hl 1 rfl) ?_
  refine lv_aload_n hx hb dL_1225 rfl (lv_at hl 0 rfl) ?_
  refine lv_iload_n hx hb dL_1226 rfl (lv_at hl 3 rfl) ?_
  refine lv_iconst (v := (1 : Int32)) hx hb dL_1227 (by decide) ?_
  refine lv_iadd hx hb dL_1228 ?_
  refine va_sld hx hb hX hbl hbA hS i1 dL_1229 ?_
  rw [ha1]
  refine law_call (Λ := LC) (Λ2 := LM) (ad := adC) (ad2 := adM) (σ2 := σM) (rest := []) (as := [aI a1]) hx hb hml hown hts hK hstC hDC hdisC hfC hlC hcc hss C1 wV_X10_trace wN_X10_trace (GW_4 157 rfl rfl) rfl rfl rfl (by decide) rfl hPC hPM hS hl.1 (Nat.le_of_ble_eq_true rfl) dL_1230 (fun H locs hPC hPM hS => ?_)
  refine lv_aload_n hx hb dL_1233 rfl (lv_at hl 2 rfl) ?_
  refine lv_aload_n hx hb dL_1234 rfl (lv_at hl 0 rfl) ?_
  refine lv_iload_n hx hb dL_1235 rfl (lv_at hl 3 rfl) ?_
  refine lv_iconst (v := (1 : Int32)) hx hb dL_1236 (by decide) ?_
  refine lv_iadd hx hb dL_1237 ?_
  refine va_sld hx hb hX hbl hbA hS i1 dL_1238 ?_
  rw [ha1]
  refine law_call (Λ := LM) (Λ2 := LC) (ad := adM) (ad2 := adC) (σ2 := σC1) (rest := [.int r]) (as := [aI a1]) hx hb hml hown hts hK hstM hDM hdisM hfM hlM hcc hss C2 wV_X11_trace wN_X11_trace (GW_6 222 rfl rfl) rfl rfl rfl (by decide) rfl hPM hPC hS hl.1 (Nat.le_of_ble_eq_true rfl) dL_1239 (fun H locs hPM hPC hS => ?_)
  refine lv_icmp_eq (tgt := 1549) hx hb dL_1242 rfl (fun _ => ?_) (fun h => absurd rfl h)
  exact kk _ _ hPC hPM hS
set_option maxRecDepth 100000 in
set_option maxHeartbeats 4000000 in
theorem law_c35 (G : LG p R s m args c D cs adC adM A b L xs cells slots) (Z : LZ s D cs adC adM A b L σC σM H locs ls x3) {r : Int32} {d1 d2 : Nat} {a1 : Int32} (ha1 : xs (x3 + 1).toNatClampNeg = a1) {a2 : Int32} (ha2 : xs (x3 + 2).toNatClampNeg = a2) (hfC : d1 + 1 ≤ R.frames) (hlC : 64 * (d1 + 1) ≤ R.locals) (hfM : d2 + 1 ≤ R.frames) (hlM : 64 * (d2 + 1) ≤ R.locals) (C1 : XM LC d1 M_X10_keep (aR 0 0 :: [aI a1, aI a2]) σC (some (aI r)) σC1) (C2 : XM LM d2 M_X11_keep (aR 0 0 :: [aI a1, aI a2]) σM (some (aI r)) σM1)
    (kk : ∀ (H1 : Heap) (locs1 : List Loc), va_P D vwCl (aWl LC cs adC σC1) H1 → va_P D vwCl (aWl LM cs adM σM1) H1 → va_S A s.heap H1 locs1 → W p l e R s m args below meth c H1 locs1 cells slots Q (F0 m 1549 ls [])) :
    W p l e R s m args below meth c H locs cells slots Q (F0 m 1247 ls []) := by
  obtain ⟨hx, hb, hml, hown, htl, hX, hbl, hbA, hK, hstC, hstM, ⟨τC, hDC0⟩, ⟨τM, hDM0⟩, hdisC, hdisM, hcc, hss⟩ := G
  have hDC := aWl_D (σ' := σC) hDC0
  have hDM := aWl_D (σ' := σM) hDM0
  have hts : ∀ w ∈ GW, w.before args s = true := fun w hw => htl w (List.mem_filter.mp hw).1
  obtain ⟨hPC, hPM, hS, hl, i1, i2, i3, i4, i5⟩ := Z
  refine lv_aload_n hx hb dL_1247 rfl (lv_at hl 1 rfl) ?_
  refine lv_aload_n hx hb dL_1248 rfl (lv_at hl 0 rfl) ?_
  refine lv_iload_n hx hb dL_1249 rfl (lv_at hl 3 rfl) ?_
  refine lv_iconst (v := (1 : Int32)) hx hb dL_1250 (by decide) ?_
  refine lv_iadd hx hb dL_1251 ?_
  refine va_sld hx hb hX hbl hbA hS i1 dL_1252 ?_
  rw [ha1]
  refine lv_aload_n hx hb dL_1253 rfl (lv_at hl 0 rfl) ?_
  refine lv_iload_n hx hb dL_1254 rfl (lv_at hl 3 rfl) ?_
  refine lv_iconst (v := (2 : Int32)) hx hb dL_1255 (by decide) ?_
  refine lv_iadd hx hb dL_1256 ?_
  refine va_sld hx hb hX hbl hbA hS i2 dL_1257 ?_
  rw [ha2]
  refine law_call (Λ := LC) (Λ2 := LM) (ad := adC) (ad2 := adM) (σ2 := σM) (rest := []) (as := [aI a1, aI a2]) hx hb hml hown hts hK hstC hDC hdisC hfC hlC hcc hss C1 wV_X10_keep wN_X10_keep (GW_4 165 rfl rfl) rfl rfl rfl (by decide) rfl hPC hPM hS hl.1 (Nat.le_of_ble_eq_true rfl) dL_1258 (fun H locs hPC hPM hS => ?_)
  refine lv_aload_n hx hb dL_1261 rfl (lv_at hl 2 rfl) ?_
  refine lv_aload_n hx hb dL_1262 rfl (lv_at hl 0 rfl) ?_
  refine lv_iload_n hx hb dL_1263 rfl (lv_at hl 3 rfl) ?_
  refine lv_iconst (v := (1 : Int32)) hx hb dL_1264 (by decide) ?_
  refine lv_iadd hx hb dL_1265 ?_
  refine va_sld hx hb hX hbl hbA hS i1 dL_1266 ?_
  rw [ha1]
  refine lv_aload_n hx hb dL_1267 rfl (lv_at hl 0 rfl) ?_
  refine lv_iload_n hx hb dL_1268 rfl (lv_at hl 3 rfl) ?_
  refine lv_iconst (v := (2 : Int32)) hx hb dL_1269 (by decide) ?_
  refine lv_iadd hx hb dL_1270 ?_
  refine va_sld hx hb hX hbl hbA hS i2 dL_1271 ?_
  rw [ha2]
  refine law_call (Λ := LM) (Λ2 := LC) (ad := adM) (ad2 := adC) (σ2 := σC1) (rest := [.int r]) (as := [aI a1, aI a2]) hx hb hml hown hts hK hstM hDM hdisM hfM hlM hcc hss C2 wV_X11_keep wN_X11_keep (GW_6 226 rfl rfl) rfl rfl rfl (by decide) rfl hPM hPC hS hl.1 (Nat.le_of_ble_eq_true rfl) dL_1272 (fun H locs hPM hPC hS => ?_)
  refine lv_icmp_eq (tgt := 1549) hx hb dL_1275 rfl (fun _ => ?_) (fun h => absurd rfl h)
  exact kk _ _ hPC hPM hS
set_option maxRecDepth 100000 in
set_option maxHeartbeats 4000000 in
theorem law_c36 (G : LG p R s m args c D cs adC adM A b L xs cells slots) (Z : LZ s D cs adC adM A b L σC σM H locs ls x3) {r : Int32} {d1 d2 : Nat} {a1 : Int32} (ha1 : xs (x3 + 1).toNatClampNeg = a1) {a2 : Int32} (ha2 : xs (x3 + 2).toNatClampNeg = a2) {a3 : Int32} (ha3 : xs (x3 + 3).toNatClampNeg = a3) (hfC : d1 + 1 ≤ R.frames) (hlC : 64 * (d1 + 1) ≤ R.locals) (hfM : d2 + 1 ≤ R.frames) (hlM : 64 * (d2 + 1) ≤ R.locals) (C1 : XM LC d1 M_X10_row (aR 0 0 :: [aI a1, aI a2, aI a3]) σC (some (aI r)) σC1) (C2 : XM LM d2 M_X11_row (aR 0 0 :: [aI a1, aI a2, aI a3]) σM (some (aI r)) σM1)
    (kk : ∀ (H1 : Heap) (locs1 : List Loc), va_P D vwCl (aWl LC cs adC σC1) H1 → va_P D vwCl (aWl LM cs adM σM1) H1 → va_S A s.heap H1 locs1 → W p l e R s m args below meth c H1 locs1 cells slots Q (F0 m 1549 ls [])) :
    W p l e R s m args below meth c H locs cells slots Q (F0 m 1280 ls []) := by
  obtain ⟨hx, hb, hml, hown, htl, hX, hbl, hbA, hK, hstC, hstM, ⟨τC, hDC0⟩, ⟨τM, hDM0⟩, hdisC, hdisM, hcc, hss⟩ := G
  have hDC := aWl_D (σ' := σC) hDC0
  have hDM := aWl_D (σ' := σM) hDM0
  have hts : ∀ w ∈ GW, w.before args s = true := fun w hw => htl w (List.mem_filter.mp hw).1
  obtain ⟨hPC, hPM, hS, hl, i1, i2, i3, i4, i5⟩ := Z
  refine lv_aload_n hx hb dL_1280 rfl (lv_at hl 1 rfl) ?_
  refine lv_aload_n hx hb dL_1281 rfl (lv_at hl 0 rfl) ?_
  refine lv_iload_n hx hb dL_1282 rfl (lv_at hl 3 rfl) ?_
  refine lv_iconst (v := (1 : Int32)) hx hb dL_1283 (by decide) ?_
  refine lv_iadd hx hb dL_1284 ?_
  refine va_sld hx hb hX hbl hbA hS i1 dL_1285 ?_
  rw [ha1]
  refine lv_aload_n hx hb dL_1286 rfl (lv_at hl 0 rfl) ?_
  refine lv_iload_n hx hb dL_1287 rfl (lv_at hl 3 rfl) ?_
  refine lv_iconst (v := (2 : Int32)) hx hb dL_1288 (by decide) ?_
  refine lv_iadd hx hb dL_1289 ?_
  refine va_sld hx hb hX hbl hbA hS i2 dL_1290 ?_
  rw [ha2]
  refine lv_aload_n hx hb dL_1291 rfl (lv_at hl 0 rfl) ?_
  refine lv_iload_n hx hb dL_1292 rfl (lv_at hl 3 rfl) ?_
  refine lv_iconst (v := (3 : Int32)) hx hb dL_1293 (by decide) ?_
  refine lv_iadd hx hb dL_1294 ?_
  refine va_sld hx hb hX hbl hbA hS i3 dL_1295 ?_
  rw [ha3]
  refine law_call (Λ := LC) (Λ2 := LM) (ad := adC) (ad2 := adM) (σ2 := σM) (rest := []) (as := [aI a1, aI a2, aI a3]) hx hb hml hown hts hK hstC hDC hdisC hfC hlC hcc hss C1 wV_X10_row wN_X10_row (GW_4 174 rfl rfl) rfl rfl rfl (by decide) rfl hPC hPM hS hl.1 (Nat.le_of_ble_eq_true rfl) dL_1296 (fun H locs hPC hPM hS => ?_)
  refine lv_aload_n hx hb dL_1299 rfl (lv_at hl 2 rfl) ?_
  refine lv_aload_n hx hb dL_1300 rfl (lv_at hl 0 rfl) ?_
  refine lv_iload_n hx hb dL_1301 rfl (lv_at hl 3 rfl) ?_
  refine lv_iconst (v := (1 : Int32)) hx hb dL_1302 (by decide) ?_
  refine lv_iadd hx hb dL_1303 ?_
  refine va_sld hx hb hX hbl hbA hS i1 dL_1304 ?_
  rw [ha1]
  refine lv_aload_n hx hb dL_1305 rfl (lv_at hl 0 rfl) ?_
  refine lv_iload_n hx hb dL_1306 rfl (lv_at hl 3 rfl) ?_
  refine lv_iconst (v := (2 : Int32)) hx hb dL_1307 (by decide) ?_
  refine lv_iadd hx hb dL_1308 ?_
  refine va_sld hx hb hX hbl hbA hS i2 dL_1309 ?_
  rw [ha2]
  refine lv_aload_n hx hb dL_1310 rfl (lv_at hl 0 rfl) ?_
  refine lv_iload_n hx hb dL_1311 rfl (lv_at hl 3 rfl) ?_
  refine lv_iconst (v := (3 : Int32)) hx hb dL_1312 (by decide) ?_
  refine lv_iadd hx hb dL_1313 ?_
  refine va_sld hx hb hX hbl hbA hS i3 dL_1314 ?_
  rw [ha3]
  refine law_call (Λ := LM) (Λ2 := LC) (ad := adM) (ad2 := adC) (σ2 := σC1) (rest := [.int r]) (as := [aI a1, aI a2, aI a3]) hx hb hml hown hts hK hstM hDM hdisM hfM hlM hcc hss C2 wV_X11_row wN_X11_row (GW_6 230 rfl rfl) rfl rfl rfl (by decide) rfl hPM hPC hS hl.1 (Nat.le_of_ble_eq_true rfl) dL_1315 (fun H locs hPM hPC hS => ?_)
  refine lv_icmp_eq (tgt := 1549) hx hb dL_1318 rfl (fun _ => ?_) (fun h => absurd rfl h)
  exact kk _ _ hPC hPM hS
set_option maxRecDepth 100000 in
set_option maxHeartbeats 4000000 in
theorem law_c37 (G : LG p R s m args c D cs adC adM A b L xs cells slots) (Z : LZ s D cs adC adM A b L σC σM H locs ls x3) {r : Int32} {d1 d2 : Nat} {a1 : Int32} (ha1 : xs (x3 + 1).toNatClampNeg = a1) {a2 : Int32} (ha2 : xs (x3 + 2).toNatClampNeg = a2) {a3 : Int32} (ha3 : xs (x3 + 3).toNatClampNeg = a3) {a4 : Int32} (ha4 : xs (x3 + 4).toNatClampNeg = a4) (hfC : d1 + 1 ≤ R.frames) (hlC : 64 * (d1 + 1) ≤ R.locals) (hfM : d2 + 1 ≤ R.frames) (hlM : 64 * (d2 + 1) ≤ R.locals) (C1 : XM LC d1 M_X10_put (aR 0 0 :: [aI a1, aI a2, aJ ((a3.toInt64 <<< ((32 : Int32).toInt64 &&& 63)) ||| (a4.toInt64 &&& (4294967295 : Int64)))]) σC (some (aI r)) σC1) (C2 : XM LM d2 M_X11_put (aR 0 0 :: [aI a1, aI a2, aJ ((a3.toInt64 <<< ((32 : Int32).toInt64 &&& 63)) ||| (a4.toInt64 &&& (4294967295 : Int64)))]) σM (some (aI r)) σM1)
    (kk : ∀ (H1 : Heap) (locs1 : List Loc), va_P D vwCl (aWl LC cs adC σC1) H1 → va_P D vwCl (aWl LM cs adM σM1) H1 → va_S A s.heap H1 locs1 → W p l e R s m args below meth c H1 locs1 cells slots Q (F0 m 1549 ls [])) :
    W p l e R s m args below meth c H locs cells slots Q (F0 m 1323 ls []) := by
  obtain ⟨hx, hb, hml, hown, htl, hX, hbl, hbA, hK, hstC, hstM, ⟨τC, hDC0⟩, ⟨τM, hDM0⟩, hdisC, hdisM, hcc, hss⟩ := G
  have hDC := aWl_D (σ' := σC) hDC0
  have hDM := aWl_D (σ' := σM) hDM0
  have hts : ∀ w ∈ GW, w.before args s = true := fun w hw => htl w (List.mem_filter.mp hw).1
  obtain ⟨hPC, hPM, hS, hl, i1, i2, i3, i4, i5⟩ := Z
  refine lv_aload_n hx hb dL_1323 rfl (lv_at hl 1 rfl) ?_
  refine lv_aload_n hx hb dL_1324 rfl (lv_at hl 0 rfl) ?_
  refine lv_iload_n hx hb dL_1325 rfl (lv_at hl 3 rfl) ?_
  refine lv_iconst (v := (1 : Int32)) hx hb dL_1326 (by decide) ?_
  refine lv_iadd hx hb dL_1327 ?_
  refine va_sld hx hb hX hbl hbA hS i1 dL_1328 ?_
  rw [ha1]
  refine lv_aload_n hx hb dL_1329 rfl (lv_at hl 0 rfl) ?_
  refine lv_iload_n hx hb dL_1330 rfl (lv_at hl 3 rfl) ?_
  refine lv_iconst (v := (2 : Int32)) hx hb dL_1331 (by decide) ?_
  refine lv_iadd hx hb dL_1332 ?_
  refine va_sld hx hb hX hbl hbA hS i2 dL_1333 ?_
  rw [ha2]
  refine lv_aload_n hx hb dL_1334 rfl (lv_at hl 0 rfl) ?_
  refine lv_iload_n hx hb dL_1335 rfl (lv_at hl 3 rfl) ?_
  refine lv_iconst (v := (3 : Int32)) hx hb dL_1336 (by decide) ?_
  refine lv_iadd hx hb dL_1337 ?_
  refine va_sld hx hb hX hbl hbA hS i3 dL_1338 ?_
  rw [ha3]
  refine lv_i2l hx hb dL_1339 rfl ?_
  refine lv_bipush (v := (32 : Int32)) hx hb dL_1340 (by decide +kernel) ?_
  refine lv_lshl hx hb dL_1342 rfl ?_
  refine lv_aload_n hx hb dL_1343 rfl (lv_at hl 0 rfl) ?_
  refine lv_iload_n hx hb dL_1344 rfl (lv_at hl 3 rfl) ?_
  refine lv_iconst (v := (4 : Int32)) hx hb dL_1345 (by decide) ?_
  refine lv_iadd hx hb dL_1346 ?_
  refine va_sld hx hb hX hbl hbA hS i4 dL_1347 ?_
  rw [ha4]
  refine lv_i2l hx hb dL_1348 rfl ?_
  refine W.ldc2 hx hb hown (htl _ (List.mem_append_right _ (List.mem_append_right _ (List.mem_append_right _ (List.mem_append_right _ (List.mem_append_right _ (List.mem_append_right _ (List.mem_append_right _ (List.mem_of_getElem? (l := tables_1_7) (i := 29) rfl))))))))) rfl dL_1349 ?_
  refine lv_land hx hb dL_1352 ?_
  refine lv_lor hx hb dL_1353 ?_
  refine law_call (Λ := LC) (Λ2 := LM) (ad := adC) (ad2 := adM) (σ2 := σM) (rest := []) (as := [aI a1, aI a2, aJ ((a3.toInt64 <<< ((32 : Int32).toInt64 &&& 63)) ||| (a4.toInt64 &&& (4294967295 : Int64)))]) hx hb hml hown hts hK hstC hDC hdisC hfC hlC hcc hss C1 wV_X10_put wN_X10_put (GW_4 185 rfl rfl) rfl rfl rfl (by decide) rfl hPC hPM hS hl.1 (Nat.le_of_ble_eq_true rfl) dL_1354 (fun H locs hPC hPM hS => ?_)
  refine lv_aload_n hx hb dL_1357 rfl (lv_at hl 2 rfl) ?_
  refine lv_aload_n hx hb dL_1358 rfl (lv_at hl 0 rfl) ?_
  refine lv_iload_n hx hb dL_1359 rfl (lv_at hl 3 rfl) ?_
  refine lv_iconst (v := (1 : Int32)) hx hb dL_1360 (by decide) ?_
  refine lv_iadd hx hb dL_1361 ?_
  refine va_sld hx hb hX hbl hbA hS i1 dL_1362 ?_
  rw [ha1]
  refine lv_aload_n hx hb dL_1363 rfl (lv_at hl 0 rfl) ?_
  refine lv_iload_n hx hb dL_1364 rfl (lv_at hl 3 rfl) ?_
  refine lv_iconst (v := (2 : Int32)) hx hb dL_1365 (by decide) ?_
  refine lv_iadd hx hb dL_1366 ?_
  refine va_sld hx hb hX hbl hbA hS i2 dL_1367 ?_
  rw [ha2]
  refine lv_aload_n hx hb dL_1368 rfl (lv_at hl 0 rfl) ?_
  refine lv_iload_n hx hb dL_1369 rfl (lv_at hl 3 rfl) ?_
  refine lv_iconst (v := (3 : Int32)) hx hb dL_1370 (by decide) ?_
  refine lv_iadd hx hb dL_1371 ?_
  refine va_sld hx hb hX hbl hbA hS i3 dL_1372 ?_
  rw [ha3]
  refine lv_i2l hx hb dL_1373 rfl ?_
  refine lv_bipush (v := (32 : Int32)) hx hb dL_1374 (by decide +kernel) ?_
  refine lv_lshl hx hb dL_1376 rfl ?_
  refine lv_aload_n hx hb dL_1377 rfl (lv_at hl 0 rfl) ?_
  refine lv_iload_n hx hb dL_1378 rfl (lv_at hl 3 rfl) ?_
  refine lv_iconst (v := (4 : Int32)) hx hb dL_1379 (by decide) ?_
  refine lv_iadd hx hb dL_1380 ?_
  refine va_sld hx hb hX hbl hbA hS i4 dL_1381 ?_
  rw [ha4]
  refine lv_i2l hx hb dL_1382 rfl ?_
  refine W.ldc2 hx hb hown (htl _ (List.mem_append_right _ (List.mem_append_right _ (List.mem_append_right _ (List.mem_append_right _ (List.mem_append_right _ (List.mem_append_right _ (List.mem_append_right _ (List.mem_of_getElem? (l := tables_1_7) (i := 29) rfl))))))))) rfl dL_1383 ?_
  refine lv_land hx hb dL_1386 ?_
  refine lv_lor hx hb dL_1387 ?_
  refine law_call (Λ := LM) (Λ2 := LC) (ad := adM) (ad2 := adC) (σ2 := σC1) (rest := [.int r]) (as := [aI a1, aI a2, aJ ((a3.toInt64 <<< ((32 : Int32).toInt64 &&& 63)) ||| (a4.toInt64 &&& (4294967295 : Int64)))]) hx hb hml hown hts hK hstM hDM hdisM hfM hlM hcc hss C2 wV_X11_put wN_X11_put (GW_6 235 rfl rfl) rfl rfl rfl (by decide) rfl hPM hPC hS hl.1 (Nat.le_of_ble_eq_true rfl) dL_1388 (fun H locs hPM hPC hS => ?_)
  refine lv_icmp_eq (tgt := 1549) hx hb dL_1391 rfl (fun _ => ?_) (fun h => absurd rfl h)
  exact kk _ _ hPC hPM hS
set_option maxRecDepth 100000 in
set_option maxHeartbeats 4000000 in
theorem law_c38 (G : LG p R s m args c D cs adC adM A b L xs cells slots) (Z : LZ s D cs adC adM A b L σC σM H locs ls x3) {r : Int64} {d1 d2 : Nat} {a1 : Int32} (ha1 : xs (x3 + 1).toNatClampNeg = a1) {a2 : Int32} (ha2 : xs (x3 + 2).toNatClampNeg = a2) (hfC : d1 + 1 ≤ R.frames) (hlC : 64 * (d1 + 1) ≤ R.locals) (hfM : d2 + 1 ≤ R.frames) (hlM : 64 * (d2 + 1) ≤ R.locals) (C1 : XM LC d1 M_X10_element (aR 0 0 :: [aI a1, aI a2]) σC (some (aJ r)) σC1) (C2 : XM LM d2 M_X11_element (aR 0 0 :: [aI a1, aI a2]) σM (some (aJ r)) σM1)
    (kk : ∀ (H1 : Heap) (locs1 : List Loc), va_P D vwCl (aWl LC cs adC σC1) H1 → va_P D vwCl (aWl LM cs adM σM1) H1 → va_S A s.heap H1 locs1 → W p l e R s m args below meth c H1 locs1 cells slots Q (F0 m 1549 ls [])) :
    W p l e R s m args below meth c H locs cells slots Q (F0 m 1396 ls []) := by
  obtain ⟨hx, hb, hml, hown, htl, hX, hbl, hbA, hK, hstC, hstM, ⟨τC, hDC0⟩, ⟨τM, hDM0⟩, hdisC, hdisM, hcc, hss⟩ := G
  have hDC := aWl_D (σ' := σC) hDC0
  have hDM := aWl_D (σ' := σM) hDM0
  have hts : ∀ w ∈ GW, w.before args s = true := fun w hw => htl w (List.mem_filter.mp hw).1
  obtain ⟨hPC, hPM, hS, hl, i1, i2, i3, i4, i5⟩ := Z
  refine lv_aload_n hx hb dL_1396 rfl (lv_at hl 1 rfl) ?_
  refine lv_aload_n hx hb dL_1397 rfl (lv_at hl 0 rfl) ?_
  refine lv_iload_n hx hb dL_1398 rfl (lv_at hl 3 rfl) ?_
  refine lv_iconst (v := (1 : Int32)) hx hb dL_1399 (by decide) ?_
  refine lv_iadd hx hb dL_1400 ?_
  refine va_sld hx hb hX hbl hbA hS i1 dL_1401 ?_
  rw [ha1]
  refine lv_aload_n hx hb dL_1402 rfl (lv_at hl 0 rfl) ?_
  refine lv_iload_n hx hb dL_1403 rfl (lv_at hl 3 rfl) ?_
  refine lv_iconst (v := (2 : Int32)) hx hb dL_1404 (by decide) ?_
  refine lv_iadd hx hb dL_1405 ?_
  refine va_sld hx hb hX hbl hbA hS i2 dL_1406 ?_
  rw [ha2]
  refine law_call (Λ := LC) (Λ2 := LM) (ad := adC) (ad2 := adM) (σ2 := σM) (rest := []) (as := [aI a1, aI a2]) hx hb hml hown hts hK hstC hDC hdisC hfC hlC hcc hss C1 wV_X10_element wN_X10_element (GW_4 204 rfl rfl) rfl rfl rfl (by decide) rfl hPC hPM hS hl.1 (Nat.le_of_ble_eq_true rfl) dL_1407 (fun H locs hPC hPM hS => ?_)
  refine lv_aload_n hx hb dL_1410 rfl (lv_at hl 2 rfl) ?_
  refine lv_aload_n hx hb dL_1411 rfl (lv_at hl 0 rfl) ?_
  refine lv_iload_n hx hb dL_1412 rfl (lv_at hl 3 rfl) ?_
  refine lv_iconst (v := (1 : Int32)) hx hb dL_1413 (by decide) ?_
  refine lv_iadd hx hb dL_1414 ?_
  refine va_sld hx hb hX hbl hbA hS i1 dL_1415 ?_
  rw [ha1]
  refine lv_aload_n hx hb dL_1416 rfl (lv_at hl 0 rfl) ?_
  refine lv_iload_n hx hb dL_1417 rfl (lv_at hl 3 rfl) ?_
  refine lv_iconst (v := (2 : Int32)) hx hb dL_1418 (by decide) ?_
  refine lv_iadd hx hb dL_1419 ?_
  refine va_sld hx hb hX hbl hbA hS i2 dL_1420 ?_
  rw [ha2]
  refine law_call (Λ := LM) (Λ2 := LC) (ad := adM) (ad2 := adC) (σ2 := σC1) (rest := [.long r]) (as := [aI a1, aI a2]) hx hb hml hown hts hK hstM hDM hdisM hfM hlM hcc hss C2 wV_X11_element wN_X11_element (GW_7 6 rfl rfl) rfl rfl rfl (by decide) rfl hPM hPC hS hl.1 (Nat.le_of_ble_eq_true rfl) dL_1421 (fun H locs hPM hPC hS => ?_)
  refine W.lcmp hx hb dL_1424 ?_
  refine lv_if_eq (tgt := 1549) hx hb dL_1425 (by decide) (fun _ => ?_) (fun h => absurd (cmp_self r) h)
  exact kk _ _ hPC hPM hS
set_option maxRecDepth 100000 in
set_option maxHeartbeats 4000000 in
theorem law_c39 (G : LG p R s m args c D cs adC adM A b L xs cells slots) (Z : LZ s D cs adC adM A b L σC σM H locs ls x3) {r : Int32} {d1 d2 : Nat} {a1 : Int32} (ha1 : xs (x3 + 1).toNatClampNeg = a1) {a2 : Int32} (ha2 : xs (x3 + 2).toNatClampNeg = a2) {a3 : Int32} (ha3 : xs (x3 + 3).toNatClampNeg = a3) {a4 : Int32} (ha4 : xs (x3 + 4).toNatClampNeg = a4) {a5 : Int32} (ha5 : xs (x3 + 5).toNatClampNeg = a5) (hfC : d1 + 1 ≤ R.frames) (hlC : 64 * (d1 + 1) ≤ R.locals) (hfM : d2 + 1 ≤ R.frames) (hlM : 64 * (d2 + 1) ≤ R.locals) (C1 : XM LC d1 M_X10_shift (aR 0 0 :: [aI a1, aI a2, aI a3, aI a4, aI a5]) σC (some (aI r)) σC1) (C2 : XM LM d2 M_X11_shift (aR 0 0 :: [aI a1, aI a2, aI a3, aI a4, aI a5]) σM (some (aI r)) σM1)
    (kk : ∀ (H1 : Heap) (locs1 : List Loc), va_P D vwCl (aWl LC cs adC σC1) H1 → va_P D vwCl (aWl LM cs adM σM1) H1 → va_S A s.heap H1 locs1 → W p l e R s m args below meth c H1 locs1 cells slots Q (F0 m 1549 ls [])) :
    W p l e R s m args below meth c H locs cells slots Q (F0 m 1430 ls []) := by
  obtain ⟨hx, hb, hml, hown, htl, hX, hbl, hbA, hK, hstC, hstM, ⟨τC, hDC0⟩, ⟨τM, hDM0⟩, hdisC, hdisM, hcc, hss⟩ := G
  have hDC := aWl_D (σ' := σC) hDC0
  have hDM := aWl_D (σ' := σM) hDM0
  have hts : ∀ w ∈ GW, w.before args s = true := fun w hw => htl w (List.mem_filter.mp hw).1
  obtain ⟨hPC, hPM, hS, hl, i1, i2, i3, i4, i5⟩ := Z
  refine lv_aload_n hx hb dL_1430 rfl (lv_at hl 1 rfl) ?_
  refine lv_aload_n hx hb dL_1431 rfl (lv_at hl 0 rfl) ?_
  refine lv_iload_n hx hb dL_1432 rfl (lv_at hl 3 rfl) ?_
  refine lv_iconst (v := (1 : Int32)) hx hb dL_1433 (by decide) ?_
  refine lv_iadd hx hb dL_1434 ?_
  refine va_sld hx hb hX hbl hbA hS i1 dL_1435 ?_
  rw [ha1]
  refine lv_aload_n hx hb dL_1436 rfl (lv_at hl 0 rfl) ?_
  refine lv_iload_n hx hb dL_1437 rfl (lv_at hl 3 rfl) ?_
  refine lv_iconst (v := (2 : Int32)) hx hb dL_1438 (by decide) ?_
  refine lv_iadd hx hb dL_1439 ?_
  refine va_sld hx hb hX hbl hbA hS i2 dL_1440 ?_
  rw [ha2]
  refine lv_aload_n hx hb dL_1441 rfl (lv_at hl 0 rfl) ?_
  refine lv_iload_n hx hb dL_1442 rfl (lv_at hl 3 rfl) ?_
  refine lv_iconst (v := (3 : Int32)) hx hb dL_1443 (by decide) ?_
  refine lv_iadd hx hb dL_1444 ?_
  refine va_sld hx hb hX hbl hbA hS i3 dL_1445 ?_
  rw [ha3]
  refine lv_aload_n hx hb dL_1446 rfl (lv_at hl 0 rfl) ?_
  refine lv_iload_n hx hb dL_1447 rfl (lv_at hl 3 rfl) ?_
  refine lv_iconst (v := (4 : Int32)) hx hb dL_1448 (by decide) ?_
  refine lv_iadd hx hb dL_1449 ?_
  refine va_sld hx hb hX hbl hbA hS i4 dL_1450 ?_
  rw [ha4]
  refine lv_aload_n hx hb dL_1451 rfl (lv_at hl 0 rfl) ?_
  refine lv_iload_n hx hb dL_1452 rfl (lv_at hl 3 rfl) ?_
  refine lv_iconst (v := (5 : Int32)) hx hb dL_1453 (by decide) ?_
  refine lv_iadd hx hb dL_1454 ?_
  refine va_sld hx hb hX hbl hbA hS i5 dL_1455 ?_
  rw [ha5]
  refine law_call (Λ := LC) (Λ2 := LM) (ad := adC) (ad2 := adM) (σ2 := σM) (rest := []) (as := [aI a1, aI a2, aI a3, aI a4, aI a5]) hx hb hml hown hts hK hstC hDC hdisC hfC hlC hcc hss C1 wV_X10_shift wN_X10_shift (GW_4 208 rfl rfl) rfl rfl rfl (by decide) rfl hPC hPM hS hl.1 (Nat.le_of_ble_eq_true rfl) dL_1456 (fun H locs hPC hPM hS => ?_)
  refine lv_aload_n hx hb dL_1459 rfl (lv_at hl 2 rfl) ?_
  refine lv_aload_n hx hb dL_1460 rfl (lv_at hl 0 rfl) ?_
  refine lv_iload_n hx hb dL_1461 rfl (lv_at hl 3 rfl) ?_
  refine lv_iconst (v := (1 : Int32)) hx hb dL_1462 (by decide) ?_
  refine lv_iadd hx hb dL_1463 ?_
  refine va_sld hx hb hX hbl hbA hS i1 dL_1464 ?_
  rw [ha1]
  refine lv_aload_n hx hb dL_1465 rfl (lv_at hl 0 rfl) ?_
  refine lv_iload_n hx hb dL_1466 rfl (lv_at hl 3 rfl) ?_
  refine lv_iconst (v := (2 : Int32)) hx hb dL_1467 (by decide) ?_
  refine lv_iadd hx hb dL_1468 ?_
  refine va_sld hx hb hX hbl hbA hS i2 dL_1469 ?_
  rw [ha2]
  refine lv_aload_n hx hb dL_1470 rfl (lv_at hl 0 rfl) ?_
  refine lv_iload_n hx hb dL_1471 rfl (lv_at hl 3 rfl) ?_
  refine lv_iconst (v := (3 : Int32)) hx hb dL_1472 (by decide) ?_
  refine lv_iadd hx hb dL_1473 ?_
  refine va_sld hx hb hX hbl hbA hS i3 dL_1474 ?_
  rw [ha3]
  refine lv_aload_n hx hb dL_1475 rfl (lv_at hl 0 rfl) ?_
  refine lv_iload_n hx hb dL_1476 rfl (lv_at hl 3 rfl) ?_
  refine lv_iconst (v := (4 : Int32)) hx hb dL_1477 (by decide) ?_
  refine lv_iadd hx hb dL_1478 ?_
  refine va_sld hx hb hX hbl hbA hS i4 dL_1479 ?_
  rw [ha4]
  refine lv_aload_n hx hb dL_1480 rfl (lv_at hl 0 rfl) ?_
  refine lv_iload_n hx hb dL_1481 rfl (lv_at hl 3 rfl) ?_
  refine lv_iconst (v := (5 : Int32)) hx hb dL_1482 (by decide) ?_
  refine lv_iadd hx hb dL_1483 ?_
  refine va_sld hx hb hX hbl hbA hS i5 dL_1484 ?_
  rw [ha5]
  refine law_call (Λ := LM) (Λ2 := LC) (ad := adM) (ad2 := adC) (σ2 := σC1) (rest := [.int r]) (as := [aI a1, aI a2, aI a3, aI a4, aI a5]) hx hb hml hown hts hK hstM hDM hdisM hfM hlM hcc hss C2 wV_X11_shift wN_X11_shift (GW_7 10 rfl rfl) rfl rfl rfl (by decide) rfl hPM hPC hS hl.1 (Nat.le_of_ble_eq_true rfl) dL_1485 (fun H locs hPM hPC hS => ?_)
  refine lv_icmp_eq (tgt := 1549) hx hb dL_1488 rfl (fun _ => ?_) (fun h => absurd rfl h)
  exact kk _ _ hPC hPM hS
set_option maxRecDepth 100000 in
set_option maxHeartbeats 4000000 in
theorem law_c40 (G : LG p R s m args c D cs adC adM A b L xs cells slots) (Z : LZ s D cs adC adM A b L σC σM H locs ls x3) {r : Int32} {d1 d2 : Nat} {a1 : Int32} (ha1 : xs (x3 + 1).toNatClampNeg = a1) {a2 : Int32} (ha2 : xs (x3 + 2).toNatClampNeg = a2) (hfC : d1 + 1 ≤ R.frames) (hlC : 64 * (d1 + 1) ≤ R.locals) (hfM : d2 + 1 ≤ R.frames) (hlM : 64 * (d2 + 1) ≤ R.locals) (C1 : XM LC d1 M_X10_taken (aR 0 0 :: [aI a1, aI a2]) σC (some (aI r)) σC1) (C2 : XM LM d2 M_X11_taken (aR 0 0 :: [aI a1, aI a2]) σM (some (aI r)) σM1)
    (kk : ∀ (H1 : Heap) (locs1 : List Loc), va_P D vwCl (aWl LC cs adC σC1) H1 → va_P D vwCl (aWl LM cs adM σM1) H1 → va_S A s.heap H1 locs1 → W p l e R s m args below meth c H1 locs1 cells slots Q (F0 m 1549 ls [])) :
    W p l e R s m args below meth c H locs cells slots Q (F0 m 1493 ls []) := by
  obtain ⟨hx, hb, hml, hown, htl, hX, hbl, hbA, hK, hstC, hstM, ⟨τC, hDC0⟩, ⟨τM, hDM0⟩, hdisC, hdisM, hcc, hss⟩ := G
  have hDC := aWl_D (σ' := σC) hDC0
  have hDM := aWl_D (σ' := σM) hDM0
  have hts : ∀ w ∈ GW, w.before args s = true := fun w hw => htl w (List.mem_filter.mp hw).1
  obtain ⟨hPC, hPM, hS, hl, i1, i2, i3, i4, i5⟩ := Z
  refine lv_aload_n hx hb dL_1493 rfl (lv_at hl 1 rfl) ?_
  refine lv_aload_n hx hb dL_1494 rfl (lv_at hl 0 rfl) ?_
  refine lv_iload_n hx hb dL_1495 rfl (lv_at hl 3 rfl) ?_
  refine lv_iconst (v := (1 : Int32)) hx hb dL_1496 (by decide) ?_
  refine lv_iadd hx hb dL_1497 ?_
  refine va_sld hx hb hX hbl hbA hS i1 dL_1498 ?_
  rw [ha1]
  refine lv_aload_n hx hb dL_1499 rfl (lv_at hl 0 rfl) ?_
  refine lv_iload_n hx hb dL_1500 rfl (lv_at hl 3 rfl) ?_
  refine lv_iconst (v := (2 : Int32)) hx hb dL_1501 (by decide) ?_
  refine lv_iadd hx hb dL_1502 ?_
  refine va_sld hx hb hX hbl hbA hS i2 dL_1503 ?_
  rw [ha2]
  refine law_call (Λ := LC) (Λ2 := LM) (ad := adC) (ad2 := adM) (σ2 := σM) (rest := []) (as := [aI a1, aI a2]) hx hb hml hown hts hK hstC hDC hdisC hfC hlC hcc hss C1 wV_X10_taken wN_X10_taken (GW_4 213 rfl rfl) rfl rfl rfl (by decide) rfl hPC hPM hS hl.1 (Nat.le_of_ble_eq_true rfl) dL_1504 (fun H locs hPC hPM hS => ?_)
  refine lv_aload_n hx hb dL_1507 rfl (lv_at hl 2 rfl) ?_
  refine lv_aload_n hx hb dL_1508 rfl (lv_at hl 0 rfl) ?_
  refine lv_iload_n hx hb dL_1509 rfl (lv_at hl 3 rfl) ?_
  refine lv_iconst (v := (1 : Int32)) hx hb dL_1510 (by decide) ?_
  refine lv_iadd hx hb dL_1511 ?_
  refine va_sld hx hb hX hbl hbA hS i1 dL_1512 ?_
  rw [ha1]
  refine lv_aload_n hx hb dL_1513 rfl (lv_at hl 0 rfl) ?_
  refine lv_iload_n hx hb dL_1514 rfl (lv_at hl 3 rfl) ?_
  refine lv_iconst (v := (2 : Int32)) hx hb dL_1515 (by decide) ?_
  refine lv_iadd hx hb dL_1516 ?_
  refine va_sld hx hb hX hbl hbA hS i2 dL_1517 ?_
  rw [ha2]
  refine law_call (Λ := LM) (Λ2 := LC) (ad := adM) (ad2 := adC) (σ2 := σC1) (rest := [.int r]) (as := [aI a1, aI a2]) hx hb hml hown hts hK hstM hDM hdisM hfM hlM hcc hss C2 wV_X11_taken wN_X11_taken (GW_7 14 rfl rfl) rfl rfl rfl (by decide) rfl hPM hPC hS hl.1 (Nat.le_of_ble_eq_true rfl) dL_1518 (fun H locs hPM hPC hS => ?_)
  refine lv_icmp_eq (tgt := 1549) hx hb dL_1521 rfl (fun _ => ?_) (fun h => absurd rfl h)
  exact kk _ _ hPC hPM hS
set_option maxRecDepth 100000 in
set_option maxHeartbeats 4000000 in
theorem law_c41 (G : LG p R s m args c D cs adC adM A b L xs cells slots) (Z : LZ s D cs adC adM A b L σC σM H locs ls x3) {r : Int32} {d1 d2 : Nat} {a1 : Int32} (ha1 : xs (x3 + 1).toNatClampNeg = a1) (hfC : d1 + 1 ≤ R.frames) (hlC : 64 * (d1 + 1) ≤ R.locals) (hfM : d2 + 1 ≤ R.frames) (hlM : 64 * (d2 + 1) ≤ R.locals) (C1 : XM LC d1 M_X10_count (aR 0 0 :: [aI a1]) σC (some (aI r)) σC1) (C2 : XM LM d2 M_X11_count (aR 0 0 :: [aI a1]) σM (some (aI r)) σM1)
    (kk : ∀ (H1 : Heap) (locs1 : List Loc), va_P D vwCl (aWl LC cs adC σC1) H1 → va_P D vwCl (aWl LM cs adM σM1) H1 → va_S A s.heap H1 locs1 → W p l e R s m args below meth c H1 locs1 cells slots Q (F0 m 1549 ls [])) :
    W p l e R s m args below meth c H locs cells slots Q (F0 m 1526 ls []) := by
  obtain ⟨hx, hb, hml, hown, htl, hX, hbl, hbA, hK, hstC, hstM, ⟨τC, hDC0⟩, ⟨τM, hDM0⟩, hdisC, hdisM, hcc, hss⟩ := G
  have hDC := aWl_D (σ' := σC) hDC0
  have hDM := aWl_D (σ' := σM) hDM0
  have hts : ∀ w ∈ GW, w.before args s = true := fun w hw => htl w (List.mem_filter.mp hw).1
  obtain ⟨hPC, hPM, hS, hl, i1, i2, i3, i4, i5⟩ := Z
  refine lv_aload_n hx hb dL_1526 rfl (lv_at hl 1 rfl) ?_
  refine lv_aload_n hx hb dL_1527 rfl (lv_at hl 0 rfl) ?_
  refine lv_iload_n hx hb dL_1528 rfl (lv_at hl 3 rfl) ?_
  refine lv_iconst (v := (1 : Int32)) hx hb dL_1529 (by decide) ?_
  refine lv_iadd hx hb dL_1530 ?_
  refine va_sld hx hb hX hbl hbA hS i1 dL_1531 ?_
  rw [ha1]
  refine law_call (Λ := LC) (Λ2 := LM) (ad := adC) (ad2 := adM) (σ2 := σM) (rest := []) (as := [aI a1]) hx hb hml hown hts hK hstC hDC hdisC hfC hlC hcc hss C1 wV_X10_count wN_X10_count (GW_4 221 rfl rfl) rfl rfl rfl (by decide) rfl hPC hPM hS hl.1 (Nat.le_of_ble_eq_true rfl) dL_1532 (fun H locs hPC hPM hS => ?_)
  refine lv_aload_n hx hb dL_1535 rfl (lv_at hl 2 rfl) ?_
  refine lv_aload_n hx hb dL_1536 rfl (lv_at hl 0 rfl) ?_
  refine lv_iload_n hx hb dL_1537 rfl (lv_at hl 3 rfl) ?_
  refine lv_iconst (v := (1 : Int32)) hx hb dL_1538 (by decide) ?_
  refine lv_iadd hx hb dL_1539 ?_
  refine va_sld hx hb hX hbl hbA hS i1 dL_1540 ?_
  rw [ha1]
  refine law_call (Λ := LM) (Λ2 := LC) (ad := adM) (ad2 := adC) (σ2 := σC1) (rest := [.int r]) (as := [aI a1]) hx hb hml hown hts hK hstM hDM hdisM hfM hlM hcc hss C2 wV_X11_count wN_X11_count (GW_7 25 rfl rfl) rfl rfl rfl (by decide) rfl hPM hPC hS hl.1 (Nat.le_of_ble_eq_true rfl) dL_1541 (fun H locs hPM hPC hS => ?_)
  refine lv_icmp_eq (tgt := 1549) hx hb dL_1544 rfl (fun _ => ?_) (fun h => absurd rfl h)
  exact kk _ _ hPC hPM hS
end LAWW
def StepI (Inv : SS → SS → Prop) (MC MM : MR) (as : List AV) (σC σM : SS) : Prop := ∃ (r : Int32) (σC1 σM1 : SS) (d1 d2 : Nat), d1 ≤ 900 ∧ d2 ≤ 900 ∧ XM LC d1 MC (aR 0 0 :: as) σC (some (aI r)) σC1 ∧ XM LM d2 MM (aR 0 0 :: as) σM (some (aI r)) σM1 ∧ Inv σC1 σM1
def StepJ (Inv : SS → SS → Prop) (MC MM : MR) (as : List AV) (σC σM : SS) : Prop := ∃ (r : Int64) (σC1 σM1 : SS) (d1 d2 : Nat), d1 ≤ 900 ∧ d2 ≤ 900 ∧ XM LC d1 MC (aR 0 0 :: as) σC (some (aJ r)) σC1 ∧ XM LM d2 MM (aR 0 0 :: as) σM (some (aJ r)) σM1 ∧ Inv σC1 σM1
def LawOK0 (Inv : SS → SS → Prop) : Prop := ∀ (σC σM : SS), Inv σC σM → ∀ a1 a2 : Int32, StepI Inv M_X10_place M_X11_place [aI a1, aI a2] σC σM
def LawOK1 (Inv : SS → SS → Prop) : Prop := ∀ (σC σM : SS), Inv σC σM → ∀ a1 a2 a3 : Int32, StepI Inv M_X10_places M_X11_places [aI a1, aI a2, aI a3] σC σM
def LawOK2 (Inv : SS → SS → Prop) : Prop := ∀ (σC σM : SS), Inv σC σM → ∀ a1 a2 a3 : Int32, StepI Inv M_X10_mend M_X11_mend [aI a1, aI a2, aI a3] σC σM
def LawOK3 (Inv : SS → SS → Prop) : Prop := ∀ (σC σM : SS), Inv σC σM → ∀ a1 a2 : Int32, StepI Inv M_X10_of M_X11_of [aI a1, aI a2] σC σM
def LawOK4 (Inv : SS → SS → Prop) : Prop := ∀ (σC σM : SS), Inv σC σM → ∀ a1 a2 : Int32, StepI Inv M_X10_wind M_X11_wind [aI a1, aI a2] σC σM
def LawOK5 (Inv : SS → SS → Prop) : Prop := ∀ (σC σM : SS), Inv σC σM → ∀ a1 : Int32, StepI Inv M_X10_feed M_X11_feed [aI a1] σC σM
def LawOK6 (Inv : SS → SS → Prop) : Prop := ∀ (σC σM : SS), Inv σC σM → ∀ _ : Unit, StepI Inv M_X10_law M_X11_law [] σC σM
def LawOK7 (Inv : SS → SS → Prop) : Prop := ∀ (σC σM : SS), Inv σC σM → ∀ a1 a2 : Int32, StepI Inv M_X10_strain M_X11_strain [aI a1, aI a2] σC σM
def LawOK8 (Inv : SS → SS → Prop) : Prop := ∀ (σC σM : SS), Inv σC σM → ∀ a1 a2 a3 : Int32, StepI Inv M_X10_walk M_X11_walk [aI a1, aI a2, aI a3] σC σM
def LawOK9 (Inv : SS → SS → Prop) : Prop := ∀ (σC σM : SS), Inv σC σM → ∀ a1 a2 : Int32, StepI Inv M_X10_start M_X11_start [aI a1, aI a2] σC σM
def LawOK10 (Inv : SS → SS → Prop) : Prop := ∀ (σC σM : SS), Inv σC σM → ∀ a1 a2 : Int32, StepJ Inv M_X10_hold M_X11_hold [aI a1, aI a2] σC σM
def LawOK11 (Inv : SS → SS → Prop) : Prop := ∀ (σC σM : SS), Inv σC σM → ∀ a1 : Int32, StepI Inv M_X10_soonest M_X11_soonest [aI a1] σC σM
def LawOK12 (Inv : SS → SS → Prop) : Prop := ∀ (σC σM : SS), Inv σC σM → ∀ a1 a2 : Int32, StepI Inv M_X10_safest M_X11_safest [aI a1, aI a2] σC σM
def LawOK13 (Inv : SS → SS → Prop) : Prop := ∀ (σC σM : SS), Inv σC σM → ∀ a1 a2 : Int32, StepI Inv M_X10_menFor M_X11_menFor [aI a1, aI a2] σC σM
def LawOK14 (Inv : SS → SS → Prop) : Prop := ∀ (σC σM : SS), Inv σC σM → ∀ a1 a2 : Int32, StepI Inv M_X10_van M_X11_van [aI a1, aI a2] σC σM
def LawOK15 (Inv : SS → SS → Prop) : Prop := ∀ (σC σM : SS), Inv σC σM → ∀ a1 a2 : Int32, StepI Inv M_X10_windFrom M_X11_windFrom [aI a1, aI a2] σC σM
def LawOK16 (Inv : SS → SS → Prop) : Prop := ∀ (σC σM : SS), Inv σC σM → ∀ a1 a2 : Int32, StepI Inv M_X10_scratchFor M_X11_scratchFor [aI a1, aI a2] σC σM
def LawOK17 (Inv : SS → SS → Prop) : Prop := ∀ (σC σM : SS), Inv σC σM → ∀ a1 : Int32, StepJ Inv M_X10_free M_X11_free [aI a1] σC σM
def LawOK18 (Inv : SS → SS → Prop) : Prop := ∀ (σC σM : SS), Inv σC σM → ∀ a1 : Int32, StepJ Inv M_X10_watch M_X11_watch [aI a1] σC σM
def LawOK19 (Inv : SS → SS → Prop) : Prop := ∀ (σC σM : SS), Inv σC σM → ∀ a1 a2 : Int32, StepJ Inv M_X10_earlier M_X11_earlier [aI a1, aI a2] σC σM
def LawOK20 (Inv : SS → SS → Prop) : Prop := ∀ (σC σM : SS), Inv σC σM → ∀ a1 a2 a3 : Int32, StepJ Inv M_X10_cost M_X11_cost [aI a1, aI a2, aI a3] σC σM
def LawOK21 (Inv : SS → SS → Prop) : Prop := ∀ (σC σM : SS), Inv σC σM → ∀ a1 a2 : Int32, StepJ Inv M_X10_begun M_X11_begun [aI a1, aI a2] σC σM
def LawOK22 (Inv : SS → SS → Prop) : Prop := ∀ (σC σM : SS), Inv σC σM → ∀ a1 a2 : Int32, StepI Inv M_X10_judge M_X11_judge [aI a1, aI a2] σC σM
def LawOK23 (Inv : SS → SS → Prop) : Prop := ∀ (σC σM : SS), Inv σC σM → ∀ a1 a2 a3 : Int32, StepI Inv M_X10_drawn M_X11_drawn [aI a1, aI a2, aI a3] σC σM
def LawOK24 (Inv : SS → SS → Prop) : Prop := ∀ (σC σM : SS), Inv σC σM → ∀ a1 a2 : Int32, StepI Inv M_X10_out M_X11_out [aI a1, aI a2] σC σM
def LawOK25 (Inv : SS → SS → Prop) : Prop := ∀ (σC σM : SS), Inv σC σM → ∀ a1 : Int32, StepI Inv M_X10_pace M_X11_pace [aI a1] σC σM
def LawOK26 (Inv : SS → SS → Prop) : Prop := ∀ (σC σM : SS), Inv σC σM → ∀ a1 : Int32, StepI Inv M_X10_rest M_X11_rest [aI a1] σC σM
def LawOK27 (Inv : SS → SS → Prop) : Prop := ∀ (σC σM : SS), Inv σC σM → ∀ a1 : Int32, StepI Inv M_X10_led M_X11_led [aI a1] σC σM
def LawOK28 (Inv : SS → SS → Prop) : Prop := ∀ (σC σM : SS), Inv σC σM → ∀ _ : Unit, StepI Inv M_X10_image M_X11_image [] σC σM
def LawOK29 (Inv : SS → SS → Prop) : Prop := ∀ (σC σM : SS), Inv σC σM → ∀ _ : Unit, StepI Inv M_X10_back M_X11_back [] σC σM
def LawOK30 (Inv : SS → SS → Prop) : Prop := ∀ (σC σM : SS), Inv σC σM → ∀ _ : Unit, StepI Inv M_X10_undo M_X11_undo [] σC σM
def LawOK31 (Inv : SS → SS → Prop) : Prop := ∀ (σC σM : SS), Inv σC σM → ∀ _ : Unit, StepI Inv M_X10_redo M_X11_redo [] σC σM
def LawOK32 (Inv : SS → SS → Prop) : Prop := ∀ (σC σM : SS), Inv σC σM → ∀ a1 : Int32, StepI Inv M_X10_body M_X11_body [aI a1] σC σM
def LawOK33 (Inv : SS → SS → Prop) : Prop := ∀ (σC σM : SS), Inv σC σM → ∀ a1 a2 a3 : Int32, StepI Inv M_X10_act M_X11_act [aI a1, aI a2, aI a3] σC σM
def LawOK34 (Inv : SS → SS → Prop) : Prop := ∀ (σC σM : SS), Inv σC σM → ∀ a1 : Int32, StepI Inv M_X10_trace M_X11_trace [aI a1] σC σM
def LawOK35 (Inv : SS → SS → Prop) : Prop := ∀ (σC σM : SS), Inv σC σM → ∀ a1 a2 : Int32, StepI Inv M_X10_keep M_X11_keep [aI a1, aI a2] σC σM
def LawOK36 (Inv : SS → SS → Prop) : Prop := ∀ (σC σM : SS), Inv σC σM → ∀ a1 a2 a3 : Int32, StepI Inv M_X10_row M_X11_row [aI a1, aI a2, aI a3] σC σM
def LawOK37 (Inv : SS → SS → Prop) : Prop := ∀ (σC σM : SS), Inv σC σM → ∀ a1 a2 a3 a4 : Int32, StepI Inv M_X10_put M_X11_put [aI a1, aI a2, aJ ((a3.toInt64 <<< ((32 : Int32).toInt64 &&& 63)) ||| (a4.toInt64 &&& (4294967295 : Int64)))] σC σM
def LawOK38 (Inv : SS → SS → Prop) : Prop := ∀ (σC σM : SS), Inv σC σM → ∀ a1 a2 : Int32, StepJ Inv M_X10_element M_X11_element [aI a1, aI a2] σC σM
def LawOK39 (Inv : SS → SS → Prop) : Prop := ∀ (σC σM : SS), Inv σC σM → ∀ a1 a2 a3 a4 a5 : Int32, StepI Inv M_X10_shift M_X11_shift [aI a1, aI a2, aI a3, aI a4, aI a5] σC σM
def LawOK40 (Inv : SS → SS → Prop) : Prop := ∀ (σC σM : SS), Inv σC σM → ∀ a1 a2 : Int32, StepI Inv M_X10_taken M_X11_taken [aI a1, aI a2] σC σM
def LawOK41 (Inv : SS → SS → Prop) : Prop := ∀ (σC σM : SS), Inv σC σM → ∀ a1 : Int32, StepI Inv M_X10_count M_X11_count [aI a1] σC σM
def LawOK (Inv : SS → SS → Prop) : Prop := LawOK0 Inv ∧ LawOK1 Inv ∧ LawOK2 Inv ∧ LawOK3 Inv ∧ LawOK4 Inv ∧ LawOK5 Inv ∧ LawOK6 Inv ∧ LawOK7 Inv ∧ LawOK8 Inv ∧ LawOK9 Inv ∧ LawOK10 Inv ∧ LawOK11 Inv ∧ LawOK12 Inv ∧ LawOK13 Inv ∧ LawOK14 Inv ∧ LawOK15 Inv ∧ LawOK16 Inv ∧ LawOK17 Inv ∧ LawOK18 Inv ∧ LawOK19 Inv ∧ LawOK20 Inv ∧ LawOK21 Inv ∧ LawOK22 Inv ∧ LawOK23 Inv ∧ LawOK24 Inv ∧ LawOK25 Inv ∧ LawOK26 Inv ∧ LawOK27 Inv ∧ LawOK28 Inv ∧ LawOK29 Inv ∧ LawOK30 Inv ∧ LawOK31 Inv ∧ LawOK32 Inv ∧ LawOK33 Inv ∧ LawOK34 Inv ∧ LawOK35 Inv ∧ LawOK36 Inv ∧ LawOK37 Inv ∧ LawOK38 Inv ∧ LawOK39 Inv ∧ LawOK40 Inv ∧ LawOK41 Inv
set_option maxRecDepth 100000 in
set_option maxHeartbeats 4000000 in
theorem law_loop {p : Program} {l : Launch} {e : Env} {R : Room} {s : State} {m : MethodId} {args : Array Value} {below : List Frame} {meth : Method} {c : Code} {cells slots : Nat} {Q : State → Prop} {D : va_G} {cs : aCs} {adC adM : aMp} {A : Nat → Prop} {b L : Nat} {xs : Nat → Int32} {Inv : SS → SS → Prop} (hL : L ≤ 3072) (hRf : 1000 ≤ R.frames) (hRl : 64000 ≤ R.locals) (G : LG p R s m args c D cs adC adM A b L xs cells slots) (ok : LawOK Inv)
    (kx : ∀ (H : Heap) (locs : List Loc) (ls : Array Slot), va_S A s.heap H locs → W p l e R s m args below meth c H locs cells slots Q (F0 m 1555 ls [])) :
    ∀ (n i : Nat) (σC σM : SS) (H : Heap) (locs : List Loc) (ls : Array Slot), i ≤ L → L + 6 ≤ i + 6 * n → Inv σC σM → va_P D vwCl (aWl LC cs adC σC) H → va_P D vwCl (aWl LM cs adM σM) H → va_S A s.heap H locs → lv_has ls 4 [(0, .ref b), (1, .ref (adC 0 0)), (2, .ref (adM 0 0)), (3, .int (nI i))] → W p l e R s m args below meth c H locs cells slots Q (F0 m 18 ls []) := by
  intro n
  induction n with
  | zero => intro i σC σM H locs ls h1 h2; exact absurd h2 (by omega)
  | succ n ih =>
    intro i σC σM H locs ls hi hin hI hPC hPM hS hl
    have G0 := G
    obtain ⟨hx, hb, hml, hown, htl, hX, hbl, hbA, -⟩ := G0
    refine lv_iload_n hx hb dL_18 rfl (lv_at hl 3 rfl) ?_
    refine lv_aload_n hx hb dL_19 rfl (lv_at hl 0 rfl) ?_
    refine va_slen hx hb hX hbl hbA hS dL_20 ?_
    refine lv_bipush (v := (6 : Int32)) hx hb dL_21 (by decide +kernel) ?_
    refine lv_isub hx hb dL_23 ?_
    refine lv_icmp_gt (tgt := 1555) hx hb dL_24 (by decide) (fun _ => kx H locs ls hS) (fun hgt => ?_)
    have h6 : i + 6 ≤ L := by
      have e1 := pk_sub_toInt (a := L) (b := 6) (by omega) (by decide)
      have e2 := nI_toInt (n := i) (by omega)
      have e3 := Int32.le_iff_toInt_le.mp (Int32.not_lt.mp hgt)
      have e4 : (nI L - nI 6).toInt = (Int32.ofNat L - 6).toInt := rfl
      omega
    have in6 : ∀ j : Nat, j < 6 → vp_in (nI i + nI j) L := fun j hj => by rw [nI_add]; exact vp_in_nI (by omega) (by omega)
    have Z : LZ s D cs adC adM A b L σC σM H locs ls (nI i) := ⟨hPC, hPM, hS, hl, in6 1 (by decide), in6 2 (by decide), in6 3 (by decide), in6 4 (by decide), in6 5 (by decide)⟩
    have nx : ∀ (σC1 σM1 : SS) (H1 : Heap) (locs1 : List Loc), Inv σC1 σM1 → va_P D vwCl (aWl LC cs adC σC1) H1 → va_P D vwCl (aWl LM cs adM σM1) H1 → va_S A s.heap H1 locs1 → W p l e R s m args below meth c H1 locs1 cells slots Q (F0 m 1549 ls []) := by
      intro σC1 σM1 H1 locs1 hI1 q1 q2 q3
      refine lv_iinc (v := nI (i + 6)) (lv' := [(3, .int (nI (i + 6))), (0, .ref b), (1, .ref (adC 0 0)), (2, .ref (adM 0 0))]) hx hb dL_1549 hl (k := 3) rfl (nI_add i 6) (by decide) rfl (fun ls hl => ?_)
      refine lv_goto (tgt := 18) hx hb dL_1552 (by decide) ?_
      exact ih (i + 6) σC1 σM1 H1 locs1 ls h6 (by omega) hI1 q1 q2 q3 (lv_sub hl [1, 2, 3, 0] rfl)
    refine lv_aload_n hx hb dL_27 rfl (lv_at hl 0 rfl) ?_
    refine lv_iload_n hx hb dL_28 rfl (lv_at hl 3 rfl) ?_
    refine va_sld hx hb hX hbl hbA hS (vp_in_nI (by omega) (by omega)) dL_29 ?_
    refine lv_bipush (v := (63 : Int32)) hx hb dL_30 (by decide +kernel) ?_
    refine lv_iand hx hb dL_32 ?_
    generalize (xs (nI i).toNatClampNeg &&& 63) = v
    by_cases hr : v.toInt < 0 ∨ 41 < v.toInt
    · exact lv_tableOut hx hb dL_33 hr (by decide) (nx σC σM H locs hI hPC hPM hS)
    obtain ⟨k, hk, rfl⟩ : ∃ k : Nat, k < 42 ∧ v = nI k := ⟨v.toInt.toNat, by omega, Int32.toInt_inj.mp (by rw [nI_toInt (by omega)]; omega)⟩
    obtain ⟨k0, k1, k2, k3, k4, k5, k6, k7, k8, k9, k10, k11, k12, k13, k14, k15, k16, k17, k18, k19, k20, k21, k22, k23, k24, k25, k26, k27, k28, k29, k30, k31, k32, k33, k34, k35, k36, k37, k38, k39, k40, k41⟩ := ok
    match k, hk with
    | 0, _ =>
      refine lv_tableIn (off := 183) (tgt := 216) hx hb dL_33 (by decide) (by decide) rfl (by decide) ?_
      obtain ⟨r, σC1, σM1, d1, d2, g1, g2, C1, C2, hI1⟩ := k0 σC σM hI _ _
      exact law_c0 G Z rfl rfl (by omega) (by omega) (by omega) (by omega) C1 C2 (fun H1 locs1 q1 q2 q3 => nx σC1 σM1 H1 locs1 hI1 q1 q2 q3)
    | 1, _ =>
      refine lv_tableIn (off := 216) (tgt := 249) hx hb dL_33 (by decide) (by decide) rfl (by decide) ?_
      obtain ⟨r, σC1, σM1, d1, d2, g1, g2, C1, C2, hI1⟩ := k1 σC σM hI _ _ _
      exact law_c1 G Z rfl rfl rfl (by omega) (by omega) (by omega) (by omega) C1 C2 (fun H1 locs1 q1 q2 q3 => nx σC1 σM1 H1 locs1 hI1 q1 q2 q3)
    | 2, _ =>
      refine lv_tableIn (off := 259) (tgt := 292) hx hb dL_33 (by decide) (by decide) rfl (by decide) ?_
      obtain ⟨r, σC1, σM1, d1, d2, g1, g2, C1, C2, hI1⟩ := k2 σC σM hI _ _ _
      exact law_c2 G Z rfl rfl rfl (by omega) (by omega) (by omega) (by omega) C1 C2 (fun H1 locs1 q1 q2 q3 => nx σC1 σM1 H1 locs1 hI1 q1 q2 q3)
    | 3, _ =>
      refine lv_tableIn (off := 302) (tgt := 335) hx hb dL_33 (by decide) (by decide) rfl (by decide) ?_
      obtain ⟨r, σC1, σM1, d1, d2, g1, g2, C1, C2, hI1⟩ := k3 σC σM hI _ _
      exact law_c3 G Z rfl rfl (by omega) (by omega) (by omega) (by omega) C1 C2 (fun H1 locs1 q1 q2 q3 => nx σC1 σM1 H1 locs1 hI1 q1 q2 q3)
    | 4, _ =>
      refine lv_tableIn (off := 335) (tgt := 368) hx hb dL_33 (by decide) (by decide) rfl (by decide) ?_
      obtain ⟨r, σC1, σM1, d1, d2, g1, g2, C1, C2, hI1⟩ := k4 σC σM hI _ _
      exact law_c4 G Z rfl rfl (by omega) (by omega) (by omega) (by omega) C1 C2 (fun H1 locs1 q1 q2 q3 => nx σC1 σM1 H1 locs1 hI1 q1 q2 q3)
    | 5, _ =>
      refine lv_tableIn (off := 368) (tgt := 401) hx hb dL_33 (by decide) (by decide) rfl (by decide) ?_
      obtain ⟨r, σC1, σM1, d1, d2, g1, g2, C1, C2, hI1⟩ := k5 σC σM hI _
      exact law_c5 G Z rfl (by omega) (by omega) (by omega) (by omega) C1 C2 (fun H1 locs1 q1 q2 q3 => nx σC1 σM1 H1 locs1 hI1 q1 q2 q3)
    | 6, _ =>
      refine lv_tableIn (off := 391) (tgt := 424) hx hb dL_33 (by decide) (by decide) rfl (by decide) ?_
      obtain ⟨r, σC1, σM1, d1, d2, g1, g2, C1, C2, hI1⟩ := k6 σC σM hI ()
      exact law_c6 G Z (by omega) (by omega) (by omega) (by omega) C1 C2 (fun H1 locs1 q1 q2 q3 => nx σC1 σM1 H1 locs1 hI1 q1 q2 q3)
    | 7, _ =>
      refine lv_tableIn (off := 404) (tgt := 437) hx hb dL_33 (by decide) (by decide) rfl (by decide) ?_
      obtain ⟨r, σC1, σM1, d1, d2, g1, g2, C1, C2, hI1⟩ := k7 σC σM hI _ _
      exact law_c7 G Z rfl rfl (by omega) (by omega) (by omega) (by omega) C1 C2 (fun H1 locs1 q1 q2 q3 => nx σC1 σM1 H1 locs1 hI1 q1 q2 q3)
    | 8, _ =>
      refine lv_tableIn (off := 437) (tgt := 470) hx hb dL_33 (by decide) (by decide) rfl (by decide) ?_
      obtain ⟨r, σC1, σM1, d1, d2, g1, g2, C1, C2, hI1⟩ := k8 σC σM hI _ _ _
      exact law_c8 G Z rfl rfl rfl (by omega) (by omega) (by omega) (by omega) C1 C2 (fun H1 locs1 q1 q2 q3 => nx σC1 σM1 H1 locs1 hI1 q1 q2 q3)
    | 9, _ =>
      refine lv_tableIn (off := 480) (tgt := 513) hx hb dL_33 (by decide) (by decide) rfl (by decide) ?_
      obtain ⟨r, σC1, σM1, d1, d2, g1, g2, C1, C2, hI1⟩ := k9 σC σM hI _ _
      exact law_c9 G Z rfl rfl (by omega) (by omega) (by omega) (by omega) C1 C2 (fun H1 locs1 q1 q2 q3 => nx σC1 σM1 H1 locs1 hI1 q1 q2 q3)
    | 10, _ =>
      refine lv_tableIn (off := 513) (tgt := 546) hx hb dL_33 (by decide) (by decide) rfl (by decide) ?_
      obtain ⟨r, σC1, σM1, d1, d2, g1, g2, C1, C2, hI1⟩ := k10 σC σM hI _ _
      exact law_c10 G Z rfl rfl (by omega) (by omega) (by omega) (by omega) C1 C2 (fun H1 locs1 q1 q2 q3 => nx σC1 σM1 H1 locs1 hI1 q1 q2 q3)
    | 11, _ =>
      refine lv_tableIn (off := 547) (tgt := 580) hx hb dL_33 (by decide) (by decide) rfl (by decide) ?_
      obtain ⟨r, σC1, σM1, d1, d2, g1, g2, C1, C2, hI1⟩ := k11 σC σM hI _
      exact law_c11 G Z rfl (by omega) (by omega) (by omega) (by omega) C1 C2 (fun H1 locs1 q1 q2 q3 => nx σC1 σM1 H1 locs1 hI1 q1 q2 q3)
    | 12, _ =>
      refine lv_tableIn (off := 570) (tgt := 603) hx hb dL_33 (by decide) (by decide) rfl (by decide) ?_
      obtain ⟨r, σC1, σM1, d1, d2, g1, g2, C1, C2, hI1⟩ := k12 σC σM hI _ _
      exact law_c12 G Z rfl rfl (by omega) (by omega) (by omega) (by omega) C1 C2 (fun H1 locs1 q1 q2 q3 => nx σC1 σM1 H1 locs1 hI1 q1 q2 q3)
    | 13, _ =>
      refine lv_tableIn (off := 603) (tgt := 636) hx hb dL_33 (by decide) (by decide) rfl (by decide) ?_
      obtain ⟨r, σC1, σM1, d1, d2, g1, g2, C1, C2, hI1⟩ := k13 σC σM hI _ _
      exact law_c13 G Z rfl rfl (by omega) (by omega) (by omega) (by omega) C1 C2 (fun H1 locs1 q1 q2 q3 => nx σC1 σM1 H1 locs1 hI1 q1 q2 q3)
    | 14, _ =>
      refine lv_tableIn (off := 636) (tgt := 669) hx hb dL_33 (by decide) (by decide) rfl (by decide) ?_
      obtain ⟨r, σC1, σM1, d1, d2, g1, g2, C1, C2, hI1⟩ := k14 σC σM hI _ _
      exact law_c14 G Z rfl rfl (by omega) (by omega) (by omega) (by omega) C1 C2 (fun H1 locs1 q1 q2 q3 => nx σC1 σM1 H1 locs1 hI1 q1 q2 q3)
    | 15, _ =>
      refine lv_tableIn (off := 669) (tgt := 702) hx hb dL_33 (by decide) (by decide) rfl (by decide) ?_
      obtain ⟨r, σC1, σM1, d1, d2, g1, g2, C1, C2, hI1⟩ := k15 σC σM hI _ _
      exact law_c15 G Z rfl rfl (by omega) (by omega) (by omega) (by omega) C1 C2 (fun H1 locs1 q1 q2 q3 => nx σC1 σM1 H1 locs1 hI1 q1 q2 q3)
    | 16, _ =>
      refine lv_tableIn (off := 702) (tgt := 735) hx hb dL_33 (by decide) (by decide) rfl (by decide) ?_
      obtain ⟨r, σC1, σM1, d1, d2, g1, g2, C1, C2, hI1⟩ := k16 σC σM hI _ _
      exact law_c16 G Z rfl rfl (by omega) (by omega) (by omega) (by omega) C1 C2 (fun H1 locs1 q1 q2 q3 => nx σC1 σM1 H1 locs1 hI1 q1 q2 q3)
    | 17, _ =>
      refine lv_tableIn (off := 735) (tgt := 768) hx hb dL_33 (by decide) (by decide) rfl (by decide) ?_
      obtain ⟨r, σC1, σM1, d1, d2, g1, g2, C1, C2, hI1⟩ := k17 σC σM hI _
      exact law_c17 G Z rfl (by omega) (by omega) (by omega) (by omega) C1 C2 (fun H1 locs1 q1 q2 q3 => nx σC1 σM1 H1 locs1 hI1 q1 q2 q3)
    | 18, _ =>
      refine lv_tableIn (off := 759) (tgt := 792) hx hb dL_33 (by decide) (by decide) rfl (by decide) ?_
      obtain ⟨r, σC1, σM1, d1, d2, g1, g2, C1, C2, hI1⟩ := k18 σC σM hI _
      exact law_c18 G Z rfl (by omega) (by omega) (by omega) (by omega) C1 C2 (fun H1 locs1 q1 q2 q3 => nx σC1 σM1 H1 locs1 hI1 q1 q2 q3)
    | 19, _ =>
      refine lv_tableIn (off := 783) (tgt := 816) hx hb dL_33 (by decide) (by decide) rfl (by decide) ?_
      obtain ⟨r, σC1, σM1, d1, d2, g1, g2, C1, C2, hI1⟩ := k19 σC σM hI _ _
      exact law_c19 G Z rfl rfl (by omega) (by omega) (by omega) (by omega) C1 C2 (fun H1 locs1 q1 q2 q3 => nx σC1 σM1 H1 locs1 hI1 q1 q2 q3)
    | 20, _ =>
      refine lv_tableIn (off := 817) (tgt := 850) hx hb dL_33 (by decide) (by decide) rfl (by decide) ?_
      obtain ⟨r, σC1, σM1, d1, d2, g1, g2, C1, C2, hI1⟩ := k20 σC σM hI _ _ _
      exact law_c20 G Z rfl rfl rfl (by omega) (by omega) (by omega) (by omega) C1 C2 (fun H1 locs1 q1 q2 q3 => nx σC1 σM1 H1 locs1 hI1 q1 q2 q3)
    | 21, _ =>
      refine lv_tableIn (off := 861) (tgt := 894) hx hb dL_33 (by decide) (by decide) rfl (by decide) ?_
      obtain ⟨r, σC1, σM1, d1, d2, g1, g2, C1, C2, hI1⟩ := k21 σC σM hI _ _
      exact law_c21 G Z rfl rfl (by omega) (by omega) (by omega) (by omega) C1 C2 (fun H1 locs1 q1 q2 q3 => nx σC1 σM1 H1 locs1 hI1 q1 q2 q3)
    | 22, _ =>
      refine lv_tableIn (off := 895) (tgt := 928) hx hb dL_33 (by decide) (by decide) rfl (by decide) ?_
      obtain ⟨r, σC1, σM1, d1, d2, g1, g2, C1, C2, hI1⟩ := k22 σC σM hI _ _
      exact law_c22 G Z rfl rfl (by omega) (by omega) (by omega) (by omega) C1 C2 (fun H1 locs1 q1 q2 q3 => nx σC1 σM1 H1 locs1 hI1 q1 q2 q3)
    | 23, _ =>
      refine lv_tableIn (off := 928) (tgt := 961) hx hb dL_33 (by decide) (by decide) rfl (by decide) ?_
      obtain ⟨r, σC1, σM1, d1, d2, g1, g2, C1, C2, hI1⟩ := k23 σC σM hI _ _ _
      exact law_c23 G Z rfl rfl rfl (by omega) (by omega) (by omega) (by omega) C1 C2 (fun H1 locs1 q1 q2 q3 => nx σC1 σM1 H1 locs1 hI1 q1 q2 q3)
    | 24, _ =>
      refine lv_tableIn (off := 971) (tgt := 1004) hx hb dL_33 (by decide) (by decide) rfl (by decide) ?_
      obtain ⟨r, σC1, σM1, d1, d2, g1, g2, C1, C2, hI1⟩ := k24 σC σM hI _ _
      exact law_c24 G Z rfl rfl (by omega) (by omega) (by omega) (by omega) C1 C2 (fun H1 locs1 q1 q2 q3 => nx σC1 σM1 H1 locs1 hI1 q1 q2 q3)
    | 25, _ =>
      refine lv_tableIn (off := 1004) (tgt := 1037) hx hb dL_33 (by decide) (by decide) rfl (by decide) ?_
      obtain ⟨r, σC1, σM1, d1, d2, g1, g2, C1, C2, hI1⟩ := k25 σC σM hI _
      exact law_c25 G Z rfl (by omega) (by omega) (by omega) (by omega) C1 C2 (fun H1 locs1 q1 q2 q3 => nx σC1 σM1 H1 locs1 hI1 q1 q2 q3)
    | 26, _ =>
      refine lv_tableIn (off := 1027) (tgt := 1060) hx hb dL_33 (by decide) (by decide) rfl (by decide) ?_
      obtain ⟨r, σC1, σM1, d1, d2, g1, g2, C1, C2, hI1⟩ := k26 σC σM hI _
      exact law_c26 G Z rfl (by omega) (by omega) (by omega) (by omega) C1 C2 (fun H1 locs1 q1 q2 q3 => nx σC1 σM1 H1 locs1 hI1 q1 q2 q3)
    | 27, _ =>
      refine lv_tableIn (off := 1050) (tgt := 1083) hx hb dL_33 (by decide) (by decide) rfl (by decide) ?_
      obtain ⟨r, σC1, σM1, d1, d2, g1, g2, C1, C2, hI1⟩ := k27 σC σM hI _
      exact law_c27 G Z rfl (by omega) (by omega) (by omega) (by omega) C1 C2 (fun H1 locs1 q1 q2 q3 => nx σC1 σM1 H1 locs1 hI1 q1 q2 q3)
    | 28, _ =>
      refine lv_tableIn (off := 1073) (tgt := 1106) hx hb dL_33 (by decide) (by decide) rfl (by decide) ?_
      obtain ⟨r, σC1, σM1, d1, d2, g1, g2, C1, C2, hI1⟩ := k28 σC σM hI ()
      exact law_c28 G Z (by omega) (by omega) (by omega) (by omega) C1 C2 (fun H1 locs1 q1 q2 q3 => nx σC1 σM1 H1 locs1 hI1 q1 q2 q3)
    | 29, _ =>
      refine lv_tableIn (off := 1086) (tgt := 1119) hx hb dL_33 (by decide) (by decide) rfl (by decide) ?_
      obtain ⟨r, σC1, σM1, d1, d2, g1, g2, C1, C2, hI1⟩ := k29 σC σM hI ()
      exact law_c29 G Z (by omega) (by omega) (by omega) (by omega) C1 C2 (fun H1 locs1 q1 q2 q3 => nx σC1 σM1 H1 locs1 hI1 q1 q2 q3)
    | 30, _ =>
      refine lv_tableIn (off := 1099) (tgt := 1132) hx hb dL_33 (by decide) (by decide) rfl (by decide) ?_
      obtain ⟨r, σC1, σM1, d1, d2, g1, g2, C1, C2, hI1⟩ := k30 σC σM hI ()
      exact law_c30 G Z (by omega) (by omega) (by omega) (by omega) C1 C2 (fun H1 locs1 q1 q2 q3 => nx σC1 σM1 H1 locs1 hI1 q1 q2 q3)
    | 31, _ =>
      refine lv_tableIn (off := 1112) (tgt := 1145) hx hb dL_33 (by decide) (by decide) rfl (by decide) ?_
      obtain ⟨r, σC1, σM1, d1, d2, g1, g2, C1, C2, hI1⟩ := k31 σC σM hI ()
      exact law_c31 G Z (by omega) (by omega) (by omega) (by omega) C1 C2 (fun H1 locs1 q1 q2 q3 => nx σC1 σM1 H1 locs1 hI1 q1 q2 q3)
    | 32, _ =>
      refine lv_tableIn (off := 1125) (tgt := 1158) hx hb dL_33 (by decide) (by decide) rfl (by decide) ?_
      obtain ⟨r, σC1, σM1, d1, d2, g1, g2, C1, C2, hI1⟩ := k32 σC σM hI _
      exact law_c32 G Z rfl (by omega) (by omega) (by omega) (by omega) C1 C2 (fun H1 locs1 q1 q2 q3 => nx σC1 σM1 H1 locs1 hI1 q1 q2 q3)
    | 33, _ =>
      refine lv_tableIn (off := 1148) (tgt := 1181) hx hb dL_33 (by decide) (by decide) rfl (by decide) ?_
      obtain ⟨r, σC1, σM1, d1, d2, g1, g2, C1, C2, hI1⟩ := k33 σC σM hI _ _ _
      exact law_c33 G Z rfl rfl rfl (by omega) (by omega) (by omega) (by omega) C1 C2 (fun H1 locs1 q1 q2 q3 => nx σC1 σM1 H1 locs1 hI1 q1 q2 q3)
    | 34, _ =>
      refine lv_tableIn (off := 1191) (tgt := 1224) hx hb dL_33 (by decide) (by decide) rfl (by decide) ?_
      obtain ⟨r, σC1, σM1, d1, d2, g1, g2, C1, C2, hI1⟩ := k34 σC σM hI _
      exact law_c34 G Z rfl (by omega) (by omega) (by omega) (by omega) C1 C2 (fun H1 locs1 q1 q2 q3 => nx σC1 σM1 H1 locs1 hI1 q1 q2 q3)
    | 35, _ =>
      refine lv_tableIn (off := 1214) (tgt := 1247) hx hb dL_33 (by decide) (by decide) rfl (by decide) ?_
      obtain ⟨r, σC1, σM1, d1, d2, g1, g2, C1, C2, hI1⟩ := k35 σC σM hI _ _
      exact law_c35 G Z rfl rfl (by omega) (by omega) (by omega) (by omega) C1 C2 (fun H1 locs1 q1 q2 q3 => nx σC1 σM1 H1 locs1 hI1 q1 q2 q3)
    | 36, _ =>
      refine lv_tableIn (off := 1247) (tgt := 1280) hx hb dL_33 (by decide) (by decide) rfl (by decide) ?_
      obtain ⟨r, σC1, σM1, d1, d2, g1, g2, C1, C2, hI1⟩ := k36 σC σM hI _ _ _
      exact law_c36 G Z rfl rfl rfl (by omega) (by omega) (by omega) (by omega) C1 C2 (fun H1 locs1 q1 q2 q3 => nx σC1 σM1 H1 locs1 hI1 q1 q2 q3)
    | 37, _ =>
      refine lv_tableIn (off := 1290) (tgt := 1323) hx hb dL_33 (by decide) (by decide) rfl (by decide) ?_
      obtain ⟨r, σC1, σM1, d1, d2, g1, g2, C1, C2, hI1⟩ := k37 σC σM hI _ _ _ _
      exact law_c37 G Z rfl rfl rfl rfl (by omega) (by omega) (by omega) (by omega) C1 C2 (fun H1 locs1 q1 q2 q3 => nx σC1 σM1 H1 locs1 hI1 q1 q2 q3)
    | 38, _ =>
      refine lv_tableIn (off := 1363) (tgt := 1396) hx hb dL_33 (by decide) (by decide) rfl (by decide) ?_
      obtain ⟨r, σC1, σM1, d1, d2, g1, g2, C1, C2, hI1⟩ := k38 σC σM hI _ _
      exact law_c38 G Z rfl rfl (by omega) (by omega) (by omega) (by omega) C1 C2 (fun H1 locs1 q1 q2 q3 => nx σC1 σM1 H1 locs1 hI1 q1 q2 q3)
    | 39, _ =>
      refine lv_tableIn (off := 1397) (tgt := 1430) hx hb dL_33 (by decide) (by decide) rfl (by decide) ?_
      obtain ⟨r, σC1, σM1, d1, d2, g1, g2, C1, C2, hI1⟩ := k39 σC σM hI _ _ _ _ _
      exact law_c39 G Z rfl rfl rfl rfl rfl (by omega) (by omega) (by omega) (by omega) C1 C2 (fun H1 locs1 q1 q2 q3 => nx σC1 σM1 H1 locs1 hI1 q1 q2 q3)
    | 40, _ =>
      refine lv_tableIn (off := 1460) (tgt := 1493) hx hb dL_33 (by decide) (by decide) rfl (by decide) ?_
      obtain ⟨r, σC1, σM1, d1, d2, g1, g2, C1, C2, hI1⟩ := k40 σC σM hI _ _
      exact law_c40 G Z rfl rfl (by omega) (by omega) (by omega) (by omega) C1 C2 (fun H1 locs1 q1 q2 q3 => nx σC1 σM1 H1 locs1 hI1 q1 q2 q3)
    | 41, _ =>
      refine lv_tableIn (off := 1493) (tgt := 1526) hx hb dL_33 (by decide) (by decide) rfl (by decide) ?_
      obtain ⟨r, σC1, σM1, d1, d2, g1, g2, C1, C2, hI1⟩ := k41 σC σM hI _
      exact law_c41 G Z rfl (by omega) (by omega) (by omega) (by omega) C1 C2 (fun H1 locs1 q1 q2 q3 => nx σC1 σM1 H1 locs1 hI1 q1 q2 q3)
    | k + 42, h => exact absurd h (by omega)
