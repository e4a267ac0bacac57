/-! the law, 7: its cases -/
def LK (E : vE) (T : Nat → ClassId) (k n b oX oY : Nat) (x3 : Int32) : Prop := ∀ (W : AW) (R : AR) (fd : Int32) (fs : Nat → Int32) (tr : Int32) (ask : Int64) (S : SV) (x : CX) (y : CY), IX W R fd fs tr ask S x → IY W R fd fs tr ask S y → V E k n 1468 [(0, .ref b), (1, .ref oX), (2, .ref oY), (3, .int x3)] [] (clX T oX x ++ clY T oY y)
theorem IY_cast {W : AW} {R : AR} {a a' : Int32} {f f' : Nat → Int32} {t t' : Int32} {q q' : Int64} {S : SV} {y : CY} (J : IY W R a f t q S y) (h1 : a = a') (h2 : f = f') (h3 : t = t') (h4 : q = q') : IY W R a' f' t' q' S y := by
  subst h1; subst h2; subst h3; subst h4; exact J
theorem v_sldK {E : vE} {T : Nat → ClassId} {cc : ByteArray} {nL : Nat} {own : String} {Ts : List Cond} {rm : Room} {k n pc : Nat} {lv : List (Nat × Value)} {st : List Value} {ws : va_W} (X : vX E cc nL own Ts (vT T) rm) {b L : Nat} {xs : Nat → Int32} (h0 : vS E b L xs) {i v : Int32} (hin : vp_in i L) (hv : xs i.toNatClampNeg = v) (hdg : decode cc pc = .ok (.iaload, 1)) (kk : V E k n (pc + 1) lv (.int v :: st) ws) : V E k n pc lv (.int i :: .ref b :: st) ws := by
  subst hv
  exact v_sld X h0 hin hdg kk
theorem lx_alikeB {E : vE} {T : Nat → ClassId} {k n : Nat} {lv : List (Nat × Value)} {rest : List Value} {Z : va_W} (X : vX E cL_law 4 RL wsL_law (vT T) room_1) (hkn : k ≤ room_1.cells ∧ n ≤ room_1.slots) (hrest : (rest.map fun v => v.category).sum ≤ 8) {W : AW} {R : AR} {S : SV} {oX : Nat} {x : CX} (hW : AWok W) (C : CWq W (cX_wr x) (cX_w x)) (G : RWq R (cX_rs x) (cX_rp x) (cX_rw x)) (S0 : CS S (cX_ss x) (cX_sn x)) {x_1 : Int32} {x_2 : Int32} {x_3 : Int32} {o : oK} (ho : ∀ P : oK → Prop, P o → sp_alike (cX_im x, cX_mU x, cX_mC x) W S x_1 x_2 x_3 (cX_fd x) (cX_tr x) (cX_fs x) (pK P)) (kk : ∀ (r : Int32) (x' : CX), r = o.1 → IX W R o.2.1 o.2.2.2.1 o.2.2.1 (cX_ask x) o.2.2.2.2 x' → V E k n 1129 lv (.int r :: rest) (clX T oX x' ++ Z)) : V E k n 1126 lv (.int x_3 :: .int x_2 :: .int x_1 :: .ref oX :: rest) (clX T oX x ++ Z) := by
  obtain ⟨f, hf, hx⟩ := pick (N := 6) (by decide) (by decide) x_1
  obtain ⟨g, hg, hx2⟩ := pick (N := 6) (by decide) (by decide) x_2
  by_cases e : f = g
  · subst e
    exact lx_alike_a X hkn hrest hW C G S0 hf hx hx2 ho kk
  · exact lx_alike X hkn hrest hW C G S0 hf hg e hx hx2 ho kk
theorem lx_copyB {E : vE} {T : Nat → ClassId} {k n : Nat} {lv : List (Nat × Value)} {rest : List Value} {Z : va_W} (X : vX E cL_law 4 RL wsL_law (vT T) room_1) (hkn : k ≤ room_1.cells ∧ n ≤ room_1.slots) (hrest : (rest.map fun v => v.category).sum ≤ 8) {W : AW} {R : AR} {S : SV} {oX : Nat} {x : CX} (hW : AWok W) (C : CWq W (cX_wr x) (cX_w x)) (G : RWq R (cX_rs x) (cX_rp x) (cX_rw x)) (S0 : CS S (cX_ss x) (cX_sn x)) {x_1 : Int32} {x_2 : Int32} {x_3 : Int32} {x_4 : Int32} {x_5 : Int32} {o : oR} (ho : ∀ P : oR → Prop, P o → sp_copy R x_1 x_2 x_3 x_4 x_5 (cX_fd x) (cX_fs x) (pR P)) (kk : ∀ (r : Int32) (x' : CX), r = o.1 → IX W o.2.2.2 o.2.1 o.2.2.1 (cX_tr x) (cX_ask x) S x' → V E k n 1347 lv (.int r :: rest) (clX T oX x' ++ Z)) : V E k n 1344 lv (.int x_5 :: .int x_4 :: .int x_3 :: .int x_2 :: .int x_1 :: .ref oX :: rest) (clX T oX x ++ Z) := by
  obtain ⟨a, ha, hx⟩ := pick (N := 4) (by decide) (by decide) x_1
  obtain ⟨b, hb, hx2⟩ := pick (N := 4) (by decide) (by decide) x_3
  by_cases e : a = b
  · subst e
    exact lx_copy_a X hkn hrest hW C G S0 ha hx hx2 ho kk
  · exact lx_copy X hkn hrest hW C G S0 ha hb e hx hx2 ho kk
set_option maxHeartbeats 4000000 in
set_option maxRecDepth 100000 in
theorem lc_world {E : vE} {T : Nat → ClassId} {k n : Nat} (X : vX E cL_law 4 RL wsL_law (vT T) room_1) {b L : Nat} {xs : Nat → Int32} (XS : vS E b L xs) (hkn : k ≤ room_1.cells ∧ n ≤ room_1.slots) {oX oY : Nat} {x3 a1 a2 a3 a4 a5 : Int32} (h1 : vp_in (x3 + 1) L) (h2 : vp_in (x3 + 2) L) (h3 : vp_in (x3 + 3) L) (h4 : vp_in (x3 + 4) L) (h5 : vp_in (x3 + 5) L) (g1 : xs (x3 + 1).toNatClampNeg = a1) (g2 : xs (x3 + 2).toNatClampNeg = a2) (g3 : xs (x3 + 3).toNatClampNeg = a3) (g4 : xs (x3 + 4).toNatClampNeg = a4) (g5 : xs (x3 + 5).toNatClampNeg = a5) {W : AW} {R : AR} {fd : Int32} {fs : Nat → Int32} {tr : Int32} {ask : Int64} {S : SV} {x : CX} {y : CY} (I : IX W R fd fs tr ask S x) (J : IY W R fd fs tr ask S y) (K : LK E T k n b oX oY x3) : V E k n 192 [(0, .ref b), (1, .ref oX), (2, .ref oY), (3, .int x3)] [] (clX T oX x ++ clY T oY y) := by
  obtain ⟨C, G, rfl, rfl, rfl, rfl, S0⟩ := I
  obtain ⟨M, N, f1, f2, f3, f4, S1⟩ := J
  have hW : AWok W := M.1
  refine v_aload_n X 1 dL_law_192 rfl rfl ?_
  refine v_aload_n X 0 dL_law_193 rfl rfl ?_
  refine v_iload_n X 3 dL_law_194 rfl rfl ?_
  refine v_iconst X dL_law_195 (v := (1 : Int32)) (by decide) ?_
  refine v_iadd X dL_law_196 ?_
  refine v_sldK X XS h1 g1 dL_law_197 ?_
  refine v_aload_n X 0 dL_law_198 rfl rfl ?_
  refine v_iload_n X 3 dL_law_199 rfl rfl ?_
  refine v_iconst X dL_law_200 (v := (2 : Int32)) (by decide) ?_
  refine v_iadd X dL_law_201 ?_
  refine v_sldK X XS h2 g2 dL_law_202 ?_
  obtain ⟨o, ho⟩ : ∃ o, ∀ P : oG → Prop, P o → sp_world W a1 a2 (pG P) := t_world
  refine lx_world X hkn (Nat.le_of_ble_eq_true rfl) hW C G S0 ho (fun r x' e I' => ?_)
  refine v_aload_n X 2 dL_law_206 rfl rfl ?_
  refine v_aload_n X 0 dL_law_207 rfl rfl ?_
  refine v_iload_n X 3 dL_law_208 rfl rfl ?_
  refine v_iconst X dL_law_209 (v := (1 : Int32)) (by decide) ?_
  refine v_iadd X dL_law_210 ?_
  refine v_sldK X XS h1 g1 dL_law_211 ?_
  refine v_aload_n X 0 dL_law_212 rfl rfl ?_
  refine v_iload_n X 3 dL_law_213 rfl rfl ?_
  refine v_iconst X dL_law_214 (v := (2 : Int32)) (by decide) ?_
  refine v_iadd X dL_law_215 ?_
  refine v_sldK X XS h2 g2 dL_law_216 ?_
  refine v_perm List.perm_append_comm ?_
  refine ly_world X hkn (Nat.le_of_ble_eq_true rfl) M N S1 (o := o) ho (fun r' y' e' J' => ?_)
  refine v_perm List.perm_append_comm ?_
  exact v_icmp_eq X (tgt := 1468) dL_law_220 (by decide) (fun _ => K _ _ _ _ _ _ _ _ _ I' (IY_cast J' f1 f2 f3 f4)) (fun c => absurd (e.trans e'.symm) c)
set_option maxHeartbeats 4000000 in
set_option maxRecDepth 100000 in
theorem lc_line {E : vE} {T : Nat → ClassId} {k n : Nat} (X : vX E cL_law 4 RL wsL_law (vT T) room_1) {b L : Nat} {xs : Nat → Int32} (XS : vS E b L xs) (hkn : k ≤ room_1.cells ∧ n ≤ room_1.slots) {oX oY : Nat} {x3 a1 a2 a3 a4 a5 : Int32} (h1 : vp_in (x3 + 1) L) (h2 : vp_in (x3 + 2) L) (h3 : vp_in (x3 + 3) L) (h4 : vp_in (x3 + 4) L) (h5 : vp_in (x3 + 5) L) (g1 : xs (x3 + 1).toNatClampNeg = a1) (g2 : xs (x3 + 2).toNatClampNeg = a2) (g3 : xs (x3 + 3).toNatClampNeg = a3) (g4 : xs (x3 + 4).toNatClampNeg = a4) (g5 : xs (x3 + 5).toNatClampNeg = a5) {W : AW} {R : AR} {fd : Int32} {fs : Nat → Int32} {tr : Int32} {ask : Int64} {S : SV} {x : CX} {y : CY} (I : IX W R fd fs tr ask S x) (J : IY W R fd fs tr ask S y) (K : LK E T k n b oX oY x3) : V E k n 225 [(0, .ref b), (1, .ref oX), (2, .ref oY), (3, .int x3)] [] (clX T oX x ++ clY T oY y) := by
  obtain ⟨C, G, rfl, rfl, rfl, rfl, S0⟩ := I
  obtain ⟨M, N, f1, f2, f3, f4, S1⟩ := J
  have hW : AWok W := M.1
  refine v_aload_n X 1 dL_law_225 rfl rfl ?_
  refine v_aload_n X 0 dL_law_226 rfl rfl ?_
  refine v_iload_n X 3 dL_law_227 rfl rfl ?_
  refine v_iconst X dL_law_228 (v := (1 : Int32)) (by decide) ?_
  refine v_iadd X dL_law_229 ?_
  refine v_sldK X XS h1 g1 dL_law_230 ?_
  refine v_aload_n X 0 dL_law_231 rfl rfl ?_
  refine v_iload_n X 3 dL_law_232 rfl rfl ?_
  refine v_iconst X dL_law_233 (v := (2 : Int32)) (by decide) ?_
  refine v_iadd X dL_law_234 ?_
  refine v_sldK X XS h2 g2 dL_law_235 ?_
  obtain ⟨o, ho⟩ : ∃ o, ∀ P : oW → Prop, P o → sp_line W R a1 a2 (cX_fd x) (cX_fs x) (pW P) := t_line
  refine lx_line X hkn (Nat.le_of_ble_eq_true rfl) hW C G S0 ho (fun r x' e I' => ?_)
  refine v_aload_n X 2 dL_law_239 rfl rfl ?_
  refine v_aload_n X 0 dL_law_240 rfl rfl ?_
  refine v_iload_n X 3 dL_law_241 rfl rfl ?_
  refine v_iconst X dL_law_242 (v := (1 : Int32)) (by decide) ?_
  refine v_iadd X dL_law_243 ?_
  refine v_sldK X XS h1 g1 dL_law_244 ?_
  refine v_aload_n X 0 dL_law_245 rfl rfl ?_
  refine v_iload_n X 3 dL_law_246 rfl rfl ?_
  refine v_iconst X dL_law_247 (v := (2 : Int32)) (by decide) ?_
  refine v_iadd X dL_law_248 ?_
  refine v_sldK X XS h2 g2 dL_law_249 ?_
  refine v_perm List.perm_append_comm ?_
  refine ly_line X hkn (Nat.le_of_ble_eq_true rfl) M N S1 (o := o) (by rw [f1, f2]; exact ho) (fun r' y' e' J' => ?_)
  refine v_perm List.perm_append_comm ?_
  exact v_icmp_eq X (tgt := 1468) dL_law_253 (by decide) (fun _ => K _ _ _ _ _ _ _ _ _ I' (IY_cast J' rfl rfl f3 f4)) (fun c => absurd (e.trans e'.symm) c)
set_option maxHeartbeats 4000000 in
set_option maxRecDepth 100000 in
theorem lc_grid {E : vE} {T : Nat → ClassId} {k n : Nat} (X : vX E cL_law 4 RL wsL_law (vT T) room_1) {b L : Nat} {xs : Nat → Int32} (XS : vS E b L xs) (hkn : k ≤ room_1.cells ∧ n ≤ room_1.slots) {oX oY : Nat} {x3 a1 a2 a3 a4 a5 : Int32} (h1 : vp_in (x3 + 1) L) (h2 : vp_in (x3 + 2) L) (h3 : vp_in (x3 + 3) L) (h4 : vp_in (x3 + 4) L) (h5 : vp_in (x3 + 5) L) (g1 : xs (x3 + 1).toNatClampNeg = a1) (g2 : xs (x3 + 2).toNatClampNeg = a2) (g3 : xs (x3 + 3).toNatClampNeg = a3) (g4 : xs (x3 + 4).toNatClampNeg = a4) (g5 : xs (x3 + 5).toNatClampNeg = a5) {W : AW} {R : AR} {fd : Int32} {fs : Nat → Int32} {tr : Int32} {ask : Int64} {S : SV} {x : CX} {y : CY} (I : IX W R fd fs tr ask S x) (J : IY W R fd fs tr ask S y) (K : LK E T k n b oX oY x3) : V E k n 258 [(0, .ref b), (1, .ref oX), (2, .ref oY), (3, .int x3)] [] (clX T oX x ++ clY T oY y) := by
  obtain ⟨C, G, rfl, rfl, rfl, rfl, S0⟩ := I
  obtain ⟨M, N, f1, f2, f3, f4, S1⟩ := J
  have hW : AWok W := M.1
  refine v_aload_n X 1 dL_law_258 rfl rfl ?_
  refine v_aload_n X 0 dL_law_259 rfl rfl ?_
  refine v_iload_n X 3 dL_law_260 rfl rfl ?_
  refine v_iconst X dL_law_261 (v := (1 : Int32)) (by decide) ?_
  refine v_iadd X dL_law_262 ?_
  refine v_sldK X XS h1 g1 dL_law_263 ?_
  refine v_aload_n X 0 dL_law_264 rfl rfl ?_
  refine v_iload_n X 3 dL_law_265 rfl rfl ?_
  refine v_iconst X dL_law_266 (v := (2 : Int32)) (by decide) ?_
  refine v_iadd X dL_law_267 ?_
  refine v_sldK X XS h2 g2 dL_law_268 ?_
  refine v_aload_n X 0 dL_law_269 rfl rfl ?_
  refine v_iload_n X 3 dL_law_270 rfl rfl ?_
  refine v_iconst X dL_law_271 (v := (3 : Int32)) (by decide) ?_
  refine v_iadd X dL_law_272 ?_
  refine v_sldK X XS h3 g3 dL_law_273 ?_
  obtain ⟨o, ho⟩ : ∃ o, ∀ P : oG → Prop, P o → sp_grid W a1 a2 a3 (pG P) := t_grid
  refine lx_grid X hkn (Nat.le_of_ble_eq_true rfl) hW C G S0 ho (fun r x' e I' => ?_)
  refine v_aload_n X 2 dL_law_277 rfl rfl ?_
  refine v_aload_n X 0 dL_law_278 rfl rfl ?_
  refine v_iload_n X 3 dL_law_279 rfl rfl ?_
  refine v_iconst X dL_law_280 (v := (1 : Int32)) (by decide) ?_
  refine v_iadd X dL_law_281 ?_
  refine v_sldK X XS h1 g1 dL_law_282 ?_
  refine v_aload_n X 0 dL_law_283 rfl rfl ?_
  refine v_iload_n X 3 dL_law_284 rfl rfl ?_
  refine v_iconst X dL_law_285 (v := (2 : Int32)) (by decide) ?_
  refine v_iadd X dL_law_286 ?_
  refine v_sldK X XS h2 g2 dL_law_287 ?_
  refine v_aload_n X 0 dL_law_288 rfl rfl ?_
  refine v_iload_n X 3 dL_law_289 rfl rfl ?_
  refine v_iconst X dL_law_290 (v := (3 : Int32)) (by decide) ?_
  refine v_iadd X dL_law_291 ?_
  refine v_sldK X XS h3 g3 dL_law_292 ?_
  refine v_perm List.perm_append_comm ?_
  refine ly_grid X hkn (Nat.le_of_ble_eq_true rfl) M N S1 (o := o) ho (fun r' y' e' J' => ?_)
  refine v_perm List.perm_append_comm ?_
  exact v_icmp_eq X (tgt := 1468) dL_law_296 (by decide) (fun _ => K _ _ _ _ _ _ _ _ _ I' (IY_cast J' f1 f2 f3 f4)) (fun c => absurd (e.trans e'.symm) c)
set_option maxHeartbeats 4000000 in
set_option maxRecDepth 100000 in
theorem lc_form {E : vE} {T : Nat → ClassId} {k n : Nat} (X : vX E cL_law 4 RL wsL_law (vT T) room_1) {b L : Nat} {xs : Nat → Int32} (XS : vS E b L xs) (hkn : k ≤ room_1.cells ∧ n ≤ room_1.slots) {oX oY : Nat} {x3 a1 a2 a3 a4 a5 : Int32} (h1 : vp_in (x3 + 1) L) (h2 : vp_in (x3 + 2) L) (h3 : vp_in (x3 + 3) L) (h4 : vp_in (x3 + 4) L) (h5 : vp_in (x3 + 5) L) (g1 : xs (x3 + 1).toNatClampNeg = a1) (g2 : xs (x3 + 2).toNatClampNeg = a2) (g3 : xs (x3 + 3).toNatClampNeg = a3) (g4 : xs (x3 + 4).toNatClampNeg = a4) (g5 : xs (x3 + 5).toNatClampNeg = a5) {W : AW} {R : AR} {fd : Int32} {fs : Nat → Int32} {tr : Int32} {ask : Int64} {S : SV} {x : CX} {y : CY} (I : IX W R fd fs tr ask S x) (J : IY W R fd fs tr ask S y) (K : LK E T k n b oX oY x3) : V E k n 301 [(0, .ref b), (1, .ref oX), (2, .ref oY), (3, .int x3)] [] (clX T oX x ++ clY T oY y) := by
  obtain ⟨C, G, rfl, rfl, rfl, rfl, S0⟩ := I
  obtain ⟨M, N, f1, f2, f3, f4, S1⟩ := J
  have hW : AWok W := M.1
  refine v_aload_n X 1 dL_law_301 rfl rfl ?_
  refine v_aload_n X 0 dL_law_302 rfl rfl ?_
  refine v_iload_n X 3 dL_law_303 rfl rfl ?_
  refine v_iconst X dL_law_304 (v := (1 : Int32)) (by decide) ?_
  refine v_iadd X dL_law_305 ?_
  refine v_sldK X XS h1 g1 dL_law_306 ?_
  refine v_aload_n X 0 dL_law_307 rfl rfl ?_
  refine v_iload_n X 3 dL_law_308 rfl rfl ?_
  refine v_iconst X dL_law_309 (v := (2 : Int32)) (by decide) ?_
  refine v_iadd X dL_law_310 ?_
  refine v_sldK X XS h2 g2 dL_law_311 ?_
  obtain ⟨o, ho⟩ : ∃ o, ∀ P : oG → Prop, P o → sp_form W a1 a2 (pG P) := t_form
  refine lx_form X hkn (Nat.le_of_ble_eq_true rfl) hW C G S0 ho (fun r x' e I' => ?_)
  refine v_aload_n X 2 dL_law_315 rfl rfl ?_
  refine v_aload_n X 0 dL_law_316 rfl rfl ?_
  refine v_iload_n X 3 dL_law_317 rfl rfl ?_
  refine v_iconst X dL_law_318 (v := (1 : Int32)) (by decide) ?_
  refine v_iadd X dL_law_319 ?_
  refine v_sldK X XS h1 g1 dL_law_320 ?_
  refine v_aload_n X 0 dL_law_321 rfl rfl ?_
  refine v_iload_n X 3 dL_law_322 rfl rfl ?_
  refine v_iconst X dL_law_323 (v := (2 : Int32)) (by decide) ?_
  refine v_iadd X dL_law_324 ?_
  refine v_sldK X XS h2 g2 dL_law_325 ?_
  refine v_perm List.perm_append_comm ?_
  refine ly_form X hkn (Nat.le_of_ble_eq_true rfl) M N S1 (o := o) ho (fun r' y' e' J' => ?_)
  refine v_perm List.perm_append_comm ?_
  exact v_icmp_eq X (tgt := 1468) dL_law_329 (by decide) (fun _ => K _ _ _ _ _ _ _ _ _ I' (IY_cast J' f1 f2 f3 f4)) (fun c => absurd (e.trans e'.symm) c)
set_option maxHeartbeats 4000000 in
set_option maxRecDepth 100000 in
theorem lc_dual {E : vE} {T : Nat → ClassId} {k n : Nat} (X : vX E cL_law 4 RL wsL_law (vT T) room_1) {b L : Nat} {xs : Nat → Int32} (XS : vS E b L xs) (hkn : k ≤ room_1.cells ∧ n ≤ room_1.slots) {oX oY : Nat} {x3 a1 a2 a3 a4 a5 : Int32} (h1 : vp_in (x3 + 1) L) (h2 : vp_in (x3 + 2) L) (h3 : vp_in (x3 + 3) L) (h4 : vp_in (x3 + 4) L) (h5 : vp_in (x3 + 5) L) (g1 : xs (x3 + 1).toNatClampNeg = a1) (g2 : xs (x3 + 2).toNatClampNeg = a2) (g3 : xs (x3 + 3).toNatClampNeg = a3) (g4 : xs (x3 + 4).toNatClampNeg = a4) (g5 : xs (x3 + 5).toNatClampNeg = a5) {W : AW} {R : AR} {fd : Int32} {fs : Nat → Int32} {tr : Int32} {ask : Int64} {S : SV} {x : CX} {y : CY} (I : IX W R fd fs tr ask S x) (J : IY W R fd fs tr ask S y) (K : LK E T k n b oX oY x3) : V E k n 334 [(0, .ref b), (1, .ref oX), (2, .ref oY), (3, .int x3)] [] (clX T oX x ++ clY T oY y) := by
  obtain ⟨C, G, rfl, rfl, rfl, rfl, S0⟩ := I
  obtain ⟨M, N, f1, f2, f3, f4, S1⟩ := J
  have hW : AWok W := M.1
  refine v_aload_n X 1 dL_law_334 rfl rfl ?_
  refine v_aload_n X 0 dL_law_335 rfl rfl ?_
  refine v_iload_n X 3 dL_law_336 rfl rfl ?_
  refine v_iconst X dL_law_337 (v := (1 : Int32)) (by decide) ?_
  refine v_iadd X dL_law_338 ?_
  refine v_sldK X XS h1 g1 dL_law_339 ?_
  refine v_aload_n X 0 dL_law_340 rfl rfl ?_
  refine v_iload_n X 3 dL_law_341 rfl rfl ?_
  refine v_iconst X dL_law_342 (v := (2 : Int32)) (by decide) ?_
  refine v_iadd X dL_law_343 ?_
  refine v_sldK X XS h2 g2 dL_law_344 ?_
  obtain ⟨o, ho⟩ : ∃ o, ∀ P : oW → Prop, P o → sp_dual W a1 a2 (cX_fd x) (cX_fs x) (pW P) := t_dual
  refine lx_dual X hkn (Nat.le_of_ble_eq_true rfl) hW C G S0 ho (fun r x' e I' => ?_)
  refine v_aload_n X 2 dL_law_348 rfl rfl ?_
  refine v_aload_n X 0 dL_law_349 rfl rfl ?_
  refine v_iload_n X 3 dL_law_350 rfl rfl ?_
  refine v_iconst X dL_law_351 (v := (1 : Int32)) (by decide) ?_
  refine v_iadd X dL_law_352 ?_
  refine v_sldK X XS h1 g1 dL_law_353 ?_
  refine v_aload_n X 0 dL_law_354 rfl rfl ?_
  refine v_iload_n X 3 dL_law_355 rfl rfl ?_
  refine v_iconst X dL_law_356 (v := (2 : Int32)) (by decide) ?_
  refine v_iadd X dL_law_357 ?_
  refine v_sldK X XS h2 g2 dL_law_358 ?_
  refine v_perm List.perm_append_comm ?_
  refine ly_dual X hkn (Nat.le_of_ble_eq_true rfl) M N S1 (o := o) (by rw [f1, f2]; exact ho) (fun r' y' e' J' => ?_)
  refine v_perm List.perm_append_comm ?_
  exact v_icmp_eq X (tgt := 1468) dL_law_362 (by decide) (fun _ => K _ _ _ _ _ _ _ _ _ I' (IY_cast J' rfl rfl f3 f4)) (fun c => absurd (e.trans e'.symm) c)
set_option maxHeartbeats 4000000 in
set_option maxRecDepth 100000 in
theorem lc_derive {E : vE} {T : Nat → ClassId} {k n : Nat} (X : vX E cL_law 4 RL wsL_law (vT T) room_1) {b L : Nat} {xs : Nat → Int32} (XS : vS E b L xs) (hkn : k ≤ room_1.cells ∧ n ≤ room_1.slots) {oX oY : Nat} {x3 a1 a2 a3 a4 a5 : Int32} (h1 : vp_in (x3 + 1) L) (h2 : vp_in (x3 + 2) L) (h3 : vp_in (x3 + 3) L) (h4 : vp_in (x3 + 4) L) (h5 : vp_in (x3 + 5) L) (g1 : xs (x3 + 1).toNatClampNeg = a1) (g2 : xs (x3 + 2).toNatClampNeg = a2) (g3 : xs (x3 + 3).toNatClampNeg = a3) (g4 : xs (x3 + 4).toNatClampNeg = a4) (g5 : xs (x3 + 5).toNatClampNeg = a5) {W : AW} {R : AR} {fd : Int32} {fs : Nat → Int32} {tr : Int32} {ask : Int64} {S : SV} {x : CX} {y : CY} (I : IX W R fd fs tr ask S x) (J : IY W R fd fs tr ask S y) (K : LK E T k n b oX oY x3) : V E k n 367 [(0, .ref b), (1, .ref oX), (2, .ref oY), (3, .int x3)] [] (clX T oX x ++ clY T oY y) := by
  obtain ⟨C, G, rfl, rfl, rfl, rfl, S0⟩ := I
  obtain ⟨M, N, f1, f2, f3, f4, S1⟩ := J
  have hW : AWok W := M.1
  refine v_aload_n X 1 dL_law_367 rfl rfl ?_
  refine v_aload_n X 0 dL_law_368 rfl rfl ?_
  refine v_iload_n X 3 dL_law_369 rfl rfl ?_
  refine v_iconst X dL_law_370 (v := (1 : Int32)) (by decide) ?_
  refine v_iadd X dL_law_371 ?_
  refine v_sldK X XS h1 g1 dL_law_372 ?_
  refine v_aload_n X 0 dL_law_373 rfl rfl ?_
  refine v_iload_n X 3 dL_law_374 rfl rfl ?_
  refine v_iconst X dL_law_375 (v := (2 : Int32)) (by decide) ?_
  refine v_iadd X dL_law_376 ?_
  refine v_sldK X XS h2 g2 dL_law_377 ?_
  refine v_aload_n X 0 dL_law_378 rfl rfl ?_
  refine v_iload_n X 3 dL_law_379 rfl rfl ?_
  refine v_iconst X dL_law_380 (v := (3 : Int32)) (by decide) ?_
  refine v_iadd X dL_law_381 ?_
  refine v_sldK X XS h3 g3 dL_law_382 ?_
  obtain ⟨o, ho⟩ : ∃ o, ∀ P : oW → Prop, P o → sp_derive W a1 a2 a3 (cX_fd x) (cX_fs x) (pW P) := t_derive hW
  refine lx_derive X hkn (Nat.le_of_ble_eq_true rfl) hW C G S0 ho (fun r x' e I' => ?_)
  refine v_aload_n X 2 dL_law_386 rfl rfl ?_
  refine v_aload_n X 0 dL_law_387 rfl rfl ?_
  refine v_iload_n X 3 dL_law_388 rfl rfl ?_
  refine v_iconst X dL_law_389 (v := (1 : Int32)) (by decide) ?_
  refine v_iadd X dL_law_390 ?_
  refine v_sldK X XS h1 g1 dL_law_391 ?_
  refine v_aload_n X 0 dL_law_392 rfl rfl ?_
  refine v_iload_n X 3 dL_law_393 rfl rfl ?_
  refine v_iconst X dL_law_394 (v := (2 : Int32)) (by decide) ?_
  refine v_iadd X dL_law_395 ?_
  refine v_sldK X XS h2 g2 dL_law_396 ?_
  refine v_aload_n X 0 dL_law_397 rfl rfl ?_
  refine v_iload_n X 3 dL_law_398 rfl rfl ?_
  refine v_iconst X dL_law_399 (v := (3 : Int32)) (by decide) ?_
  refine v_iadd X dL_law_400 ?_
  refine v_sldK X XS h3 g3 dL_law_401 ?_
  refine v_perm List.perm_append_comm ?_
  refine ly_derive X hkn (Nat.le_of_ble_eq_true rfl) M N S1 (o := o) (by rw [f1, f2]; exact ho) (fun r' y' e' J' => ?_)
  refine v_perm List.perm_append_comm ?_
  exact v_icmp_eq X (tgt := 1468) dL_law_405 (by decide) (fun _ => K _ _ _ _ _ _ _ _ _ I' (IY_cast J' rfl rfl f3 f4)) (fun c => absurd (e.trans e'.symm) c)
set_option maxHeartbeats 4000000 in
set_option maxRecDepth 100000 in
theorem lc_part {E : vE} {T : Nat → ClassId} {k n : Nat} (X : vX E cL_law 4 RL wsL_law (vT T) room_1) {b L : Nat} {xs : Nat → Int32} (XS : vS E b L xs) (hkn : k ≤ room_1.cells ∧ n ≤ room_1.slots) {oX oY : Nat} {x3 a1 a2 a3 a4 a5 : Int32} (h1 : vp_in (x3 + 1) L) (h2 : vp_in (x3 + 2) L) (h3 : vp_in (x3 + 3) L) (h4 : vp_in (x3 + 4) L) (h5 : vp_in (x3 + 5) L) (g1 : xs (x3 + 1).toNatClampNeg = a1) (g2 : xs (x3 + 2).toNatClampNeg = a2) (g3 : xs (x3 + 3).toNatClampNeg = a3) (g4 : xs (x3 + 4).toNatClampNeg = a4) (g5 : xs (x3 + 5).toNatClampNeg = a5) {W : AW} {R : AR} {fd : Int32} {fs : Nat → Int32} {tr : Int32} {ask : Int64} {S : SV} {x : CX} {y : CY} (I : IX W R fd fs tr ask S x) (J : IY W R fd fs tr ask S y) (K : LK E T k n b oX oY x3) : V E k n 410 [(0, .ref b), (1, .ref oX), (2, .ref oY), (3, .int x3)] [] (clX T oX x ++ clY T oY y) := by
  obtain ⟨C, G, rfl, rfl, rfl, rfl, S0⟩ := I
  obtain ⟨M, N, f1, f2, f3, f4, S1⟩ := J
  have hW : AWok W := M.1
  refine v_aload_n X 1 dL_law_410 rfl rfl ?_
  refine v_aload_n X 0 dL_law_411 rfl rfl ?_
  refine v_iload_n X 3 dL_law_412 rfl rfl ?_
  refine v_iconst X dL_law_413 (v := (1 : Int32)) (by decide) ?_
  refine v_iadd X dL_law_414 ?_
  refine v_sldK X XS h1 g1 dL_law_415 ?_
  refine v_aload_n X 0 dL_law_416 rfl rfl ?_
  refine v_iload_n X 3 dL_law_417 rfl rfl ?_
  refine v_iconst X dL_law_418 (v := (2 : Int32)) (by decide) ?_
  refine v_iadd X dL_law_419 ?_
  refine v_sldK X XS h2 g2 dL_law_420 ?_
  refine v_i2l X dL_law_421 ?_
  refine v_bipush X dL_law_422 (v := (32 : Int32)) (by decide) ?_
  refine v_lshl X dL_law_424 ?_
  refine v_aload_n X 0 dL_law_425 rfl rfl ?_
  refine v_iload_n X 3 dL_law_426 rfl rfl ?_
  refine v_iconst X dL_law_427 (v := (3 : Int32)) (by decide) ?_
  refine v_iadd X dL_law_428 ?_
  refine v_sldK X XS h3 g3 dL_law_429 ?_
  refine v_i2l X dL_law_430 ?_
  refine v_ldc2 X (v := (4294967295 : Int64)) (List.mem_of_getElem? (i := 6) rfl) dL_law_431 ?_
  refine v_land X dL_law_434 ?_
  refine v_lor X dL_law_435 ?_
  refine v_aload_n X 0 dL_law_436 rfl rfl ?_
  refine v_iload_n X 3 dL_law_437 rfl rfl ?_
  refine v_iconst X dL_law_438 (v := (4 : Int32)) (by decide) ?_
  refine v_iadd X dL_law_439 ?_
  refine v_sldK X XS h4 g4 dL_law_440 ?_
  obtain ⟨o, ho⟩ : ∃ o, ∀ P : oW → Prop, P o → sp_part W a1 ((vshl a2.toInt64 32) ||| (a3.toInt64 &&& (4294967295 : Int64))) a4 (cX_fd x) (cX_fs x) (pW P) := t_part
  refine lx_part X hkn (Nat.le_of_ble_eq_true rfl) hW C G S0 ho (fun r x' e I' => ?_)
  refine v_aload_n X 2 dL_law_444 rfl rfl ?_
  refine v_aload_n X 0 dL_law_445 rfl rfl ?_
  refine v_iload_n X 3 dL_law_446 rfl rfl ?_
  refine v_iconst X dL_law_447 (v := (1 : Int32)) (by decide) ?_
  refine v_iadd X dL_law_448 ?_
  refine v_sldK X XS h1 g1 dL_law_449 ?_
  refine v_aload_n X 0 dL_law_450 rfl rfl ?_
  refine v_iload_n X 3 dL_law_451 rfl rfl ?_
  refine v_iconst X dL_law_452 (v := (2 : Int32)) (by decide) ?_
  refine v_iadd X dL_law_453 ?_
  refine v_sldK X XS h2 g2 dL_law_454 ?_
  refine v_i2l X dL_law_455 ?_
  refine v_bipush X dL_law_456 (v := (32 : Int32)) (by decide) ?_
  refine v_lshl X dL_law_458 ?_
  refine v_aload_n X 0 dL_law_459 rfl rfl ?_
  refine v_iload_n X 3 dL_law_460 rfl rfl ?_
  refine v_iconst X dL_law_461 (v := (3 : Int32)) (by decide) ?_
  refine v_iadd X dL_law_462 ?_
  refine v_sldK X XS h3 g3 dL_law_463 ?_
  refine v_i2l X dL_law_464 ?_
  refine v_ldc2 X (v := (4294967295 : Int64)) (List.mem_of_getElem? (i := 6) rfl) dL_law_465 ?_
  refine v_land X dL_law_468 ?_
  refine v_lor X dL_law_469 ?_
  refine v_aload_n X 0 dL_law_470 rfl rfl ?_
  refine v_iload_n X 3 dL_law_471 rfl rfl ?_
  refine v_iconst X dL_law_472 (v := (4 : Int32)) (by decide) ?_
  refine v_iadd X dL_law_473 ?_
  refine v_sldK X XS h4 g4 dL_law_474 ?_
  refine v_perm List.perm_append_comm ?_
  refine ly_part X hkn (Nat.le_of_ble_eq_true rfl) M N S1 (o := o) (by rw [f1, f2]; exact ho) (fun r' y' e' J' => ?_)
  refine v_perm List.perm_append_comm ?_
  exact v_icmp_eq X (tgt := 1468) dL_law_478 (by decide) (fun _ => K _ _ _ _ _ _ _ _ _ I' (IY_cast J' rfl rfl f3 f4)) (fun c => absurd (e.trans e'.symm) c)
set_option maxHeartbeats 4000000 in
set_option maxRecDepth 100000 in
theorem lc_drop {E : vE} {T : Nat → ClassId} {k n : Nat} (X : vX E cL_law 4 RL wsL_law (vT T) room_1) {b L : Nat} {xs : Nat → Int32} (XS : vS E b L xs) (hkn : k ≤ room_1.cells ∧ n ≤ room_1.slots) {oX oY : Nat} {x3 a1 a2 a3 a4 a5 : Int32} (h1 : vp_in (x3 + 1) L) (h2 : vp_in (x3 + 2) L) (h3 : vp_in (x3 + 3) L) (h4 : vp_in (x3 + 4) L) (h5 : vp_in (x3 + 5) L) (g1 : xs (x3 + 1).toNatClampNeg = a1) (g2 : xs (x3 + 2).toNatClampNeg = a2) (g3 : xs (x3 + 3).toNatClampNeg = a3) (g4 : xs (x3 + 4).toNatClampNeg = a4) (g5 : xs (x3 + 5).toNatClampNeg = a5) {W : AW} {R : AR} {fd : Int32} {fs : Nat → Int32} {tr : Int32} {ask : Int64} {S : SV} {x : CX} {y : CY} (I : IX W R fd fs tr ask S x) (J : IY W R fd fs tr ask S y) (K : LK E T k n b oX oY x3) : V E k n 483 [(0, .ref b), (1, .ref oX), (2, .ref oY), (3, .int x3)] [] (clX T oX x ++ clY T oY y) := by
  obtain ⟨C, G, rfl, rfl, rfl, rfl, S0⟩ := I
  obtain ⟨M, N, f1, f2, f3, f4, S1⟩ := J
  have hW : AWok W := M.1
  refine v_aload_n X 1 dL_law_483 rfl rfl ?_
  refine v_aload_n X 0 dL_law_484 rfl rfl ?_
  refine v_iload_n X 3 dL_law_485 rfl rfl ?_
  refine v_iconst X dL_law_486 (v := (1 : Int32)) (by decide) ?_
  refine v_iadd X dL_law_487 ?_
  refine v_sldK X XS h1 g1 dL_law_488 ?_
  obtain ⟨o, ho⟩ : ∃ o, ∀ P : oW → Prop, P o → sp_drop W a1 (cX_fd x) (cX_fs x) (pW P) := t_drop
  refine lx_drop X hkn (Nat.le_of_ble_eq_true rfl) hW C G S0 ho (fun r x' e I' => ?_)
  refine v_aload_n X 2 dL_law_492 rfl rfl ?_
  refine v_aload_n X 0 dL_law_493 rfl rfl ?_
  refine v_iload_n X 3 dL_law_494 rfl rfl ?_
  refine v_iconst X dL_law_495 (v := (1 : Int32)) (by decide) ?_
  refine v_iadd X dL_law_496 ?_
  refine v_sldK X XS h1 g1 dL_law_497 ?_
  refine v_perm List.perm_append_comm ?_
  refine ly_drop X hkn (Nat.le_of_ble_eq_true rfl) M N S1 (o := o) (by rw [f1, f2]; exact ho) (fun r' y' e' J' => ?_)
  refine v_perm List.perm_append_comm ?_
  exact v_icmp_eq X (tgt := 1468) dL_law_501 (by decide) (fun _ => K _ _ _ _ _ _ _ _ _ I' (IY_cast J' rfl rfl f3 f4)) (fun c => absurd (e.trans e'.symm) c)
set_option maxHeartbeats 4000000 in
set_option maxRecDepth 100000 in
theorem lc_told {E : vE} {T : Nat → ClassId} {k n : Nat} (X : vX E cL_law 4 RL wsL_law (vT T) room_1) {b L : Nat} {xs : Nat → Int32} (XS : vS E b L xs) (hkn : k ≤ room_1.cells ∧ n ≤ room_1.slots) {oX oY : Nat} {x3 a1 a2 a3 a4 a5 : Int32} (h1 : vp_in (x3 + 1) L) (h2 : vp_in (x3 + 2) L) (h3 : vp_in (x3 + 3) L) (h4 : vp_in (x3 + 4) L) (h5 : vp_in (x3 + 5) L) (g1 : xs (x3 + 1).toNatClampNeg = a1) (g2 : xs (x3 + 2).toNatClampNeg = a2) (g3 : xs (x3 + 3).toNatClampNeg = a3) (g4 : xs (x3 + 4).toNatClampNeg = a4) (g5 : xs (x3 + 5).toNatClampNeg = a5) {W : AW} {R : AR} {fd : Int32} {fs : Nat → Int32} {tr : Int32} {ask : Int64} {S : SV} {x : CX} {y : CY} (I : IX W R fd fs tr ask S x) (J : IY W R fd fs tr ask S y) (K : LK E T k n b oX oY x3) : V E k n 506 [(0, .ref b), (1, .ref oX), (2, .ref oY), (3, .int x3)] [] (clX T oX x ++ clY T oY y) := by
  obtain ⟨C, G, rfl, rfl, rfl, rfl, S0⟩ := I
  obtain ⟨M, N, f1, f2, f3, f4, S1⟩ := J
  have hW : AWok W := M.1
  refine v_aload_n X 1 dL_law_506 rfl rfl ?_
  refine v_aload_n X 0 dL_law_507 rfl rfl ?_
  refine v_iload_n X 3 dL_law_508 rfl rfl ?_
  refine v_iconst X dL_law_509 (v := (1 : Int32)) (by decide) ?_
  refine v_iadd X dL_law_510 ?_
  refine v_sldK X XS h1 g1 dL_law_511 ?_
  refine v_aload_n X 0 dL_law_512 rfl rfl ?_
  refine v_iload_n X 3 dL_law_513 rfl rfl ?_
  refine v_iconst X dL_law_514 (v := (2 : Int32)) (by decide) ?_
  refine v_iadd X dL_law_515 ?_
  refine v_sldK X XS h2 g2 dL_law_516 ?_
  obtain ⟨o, ho⟩ : ∃ o, ∀ P : oF → Prop, P o → sp_told W a1 a2 (cX_fd x) (cX_fs x) (pF P) := t_told
  refine lx_told X hkn (Nat.le_of_ble_eq_true rfl) hW C G S0 ho (fun r x' e I' => ?_)
  refine v_aload_n X 2 dL_law_520 rfl rfl ?_
  refine v_aload_n X 0 dL_law_521 rfl rfl ?_
  refine v_iload_n X 3 dL_law_522 rfl rfl ?_
  refine v_iconst X dL_law_523 (v := (1 : Int32)) (by decide) ?_
  refine v_iadd X dL_law_524 ?_
  refine v_sldK X XS h1 g1 dL_law_525 ?_
  refine v_aload_n X 0 dL_law_526 rfl rfl ?_
  refine v_iload_n X 3 dL_law_527 rfl rfl ?_
  refine v_iconst X dL_law_528 (v := (2 : Int32)) (by decide) ?_
  refine v_iadd X dL_law_529 ?_
  refine v_sldK X XS h2 g2 dL_law_530 ?_
  refine v_perm List.perm_append_comm ?_
  refine ly_told X hkn (Nat.le_of_ble_eq_true rfl) M N S1 (o := o) (by rw [f1, f2]; exact ho) (fun r' y' e' J' => ?_)
  refine v_perm List.perm_append_comm ?_
  exact v_icmp_eq X (tgt := 1468) dL_law_534 (by decide) (fun _ => K _ _ _ _ _ _ _ _ _ I' (IY_cast J' rfl rfl f3 f4)) (fun c => absurd (e.trans e'.symm) c)
set_option maxHeartbeats 4000000 in
set_option maxRecDepth 100000 in
theorem lc_mark {E : vE} {T : Nat → ClassId} {k n : Nat} (X : vX E cL_law 4 RL wsL_law (vT T) room_1) {b L : Nat} {xs : Nat → Int32} (XS : vS E b L xs) (hkn : k ≤ room_1.cells ∧ n ≤ room_1.slots) {oX oY : Nat} {x3 a1 a2 a3 a4 a5 : Int32} (h1 : vp_in (x3 + 1) L) (h2 : vp_in (x3 + 2) L) (h3 : vp_in (x3 + 3) L) (h4 : vp_in (x3 + 4) L) (h5 : vp_in (x3 + 5) L) (g1 : xs (x3 + 1).toNatClampNeg = a1) (g2 : xs (x3 + 2).toNatClampNeg = a2) (g3 : xs (x3 + 3).toNatClampNeg = a3) (g4 : xs (x3 + 4).toNatClampNeg = a4) (g5 : xs (x3 + 5).toNatClampNeg = a5) {W : AW} {R : AR} {fd : Int32} {fs : Nat → Int32} {tr : Int32} {ask : Int64} {S : SV} {x : CX} {y : CY} (I : IX W R fd fs tr ask S x) (J : IY W R fd fs tr ask S y) (K : LK E T k n b oX oY x3) : V E k n 539 [(0, .ref b), (1, .ref oX), (2, .ref oY), (3, .int x3)] [] (clX T oX x ++ clY T oY y) := by
  obtain ⟨C, G, rfl, rfl, rfl, rfl, S0⟩ := I
  obtain ⟨M, N, f1, f2, f3, f4, S1⟩ := J
  have hW : AWok W := M.1
  refine v_aload_n X 1 dL_law_539 rfl rfl ?_
  refine v_aload_n X 0 dL_law_540 rfl rfl ?_
  refine v_iload_n X 3 dL_law_541 rfl rfl ?_
  refine v_iconst X dL_law_542 (v := (1 : Int32)) (by decide) ?_
  refine v_iadd X dL_law_543 ?_
  refine v_sldK X XS h1 g1 dL_law_544 ?_
  refine v_aload_n X 0 dL_law_545 rfl rfl ?_
  refine v_iload_n X 3 dL_law_546 rfl rfl ?_
  refine v_iconst X dL_law_547 (v := (2 : Int32)) (by decide) ?_
  refine v_iadd X dL_law_548 ?_
  refine v_sldK X XS h2 g2 dL_law_549 ?_
  obtain ⟨o, ho⟩ : ∃ o, ∀ P : oF → Prop, P o → sp_mark W a1 a2 (cX_fd x) (cX_fs x) (pF P) := t_mark
  refine lx_mark X hkn (Nat.le_of_ble_eq_true rfl) hW C G S0 ho (fun r x' e I' => ?_)
  refine v_aload_n X 2 dL_law_553 rfl rfl ?_
  refine v_aload_n X 0 dL_law_554 rfl rfl ?_
  refine v_iload_n X 3 dL_law_555 rfl rfl ?_
  refine v_iconst X dL_law_556 (v := (1 : Int32)) (by decide) ?_
  refine v_iadd X dL_law_557 ?_
  refine v_sldK X XS h1 g1 dL_law_558 ?_
  refine v_aload_n X 0 dL_law_559 rfl rfl ?_
  refine v_iload_n X 3 dL_law_560 rfl rfl ?_
  refine v_iconst X dL_law_561 (v := (2 : Int32)) (by decide) ?_
  refine v_iadd X dL_law_562 ?_
  refine v_sldK X XS h2 g2 dL_law_563 ?_
  refine v_perm List.perm_append_comm ?_
  refine ly_mark X hkn (Nat.le_of_ble_eq_true rfl) M N S1 (o := o) (by rw [f1, f2]; exact ho) (fun r' y' e' J' => ?_)
  refine v_perm List.perm_append_comm ?_
  exact v_icmp_eq X (tgt := 1468) dL_law_567 (by decide) (fun _ => K _ _ _ _ _ _ _ _ _ I' (IY_cast J' rfl rfl f3 f4)) (fun c => absurd (e.trans e'.symm) c)
set_option maxHeartbeats 4000000 in
set_option maxRecDepth 100000 in
theorem lc_points {E : vE} {T : Nat → ClassId} {k n : Nat} (X : vX E cL_law 4 RL wsL_law (vT T) room_1) {b L : Nat} {xs : Nat → Int32} (XS : vS E b L xs) (hkn : k ≤ room_1.cells ∧ n ≤ room_1.slots) {oX oY : Nat} {x3 a1 a2 a3 a4 a5 : Int32} (h1 : vp_in (x3 + 1) L) (h2 : vp_in (x3 + 2) L) (h3 : vp_in (x3 + 3) L) (h4 : vp_in (x3 + 4) L) (h5 : vp_in (x3 + 5) L) (g1 : xs (x3 + 1).toNatClampNeg = a1) (g2 : xs (x3 + 2).toNatClampNeg = a2) (g3 : xs (x3 + 3).toNatClampNeg = a3) (g4 : xs (x3 + 4).toNatClampNeg = a4) (g5 : xs (x3 + 5).toNatClampNeg = a5) {W : AW} {R : AR} {fd : Int32} {fs : Nat → Int32} {tr : Int32} {ask : Int64} {S : SV} {x : CX} {y : CY} (I : IX W R fd fs tr ask S x) (J : IY W R fd fs tr ask S y) (K : LK E T k n b oX oY x3) : V E k n 572 [(0, .ref b), (1, .ref oX), (2, .ref oY), (3, .int x3)] [] (clX T oX x ++ clY T oY y) := by
  obtain ⟨C, G, rfl, rfl, rfl, rfl, S0⟩ := I
  obtain ⟨M, N, f1, f2, f3, f4, S1⟩ := J
  have hW : AWok W := M.1
  refine v_aload_n X 1 dL_law_572 rfl rfl ?_
  refine v_aload_n X 0 dL_law_573 rfl rfl ?_
  refine v_iload_n X 3 dL_law_574 rfl rfl ?_
  refine v_iconst X dL_law_575 (v := (1 : Int32)) (by decide) ?_
  refine v_iadd X dL_law_576 ?_
  refine v_sldK X XS h1 g1 dL_law_577 ?_
  refine v_aload_n X 0 dL_law_578 rfl rfl ?_
  refine v_iload_n X 3 dL_law_579 rfl rfl ?_
  refine v_iconst X dL_law_580 (v := (2 : Int32)) (by decide) ?_
  refine v_iadd X dL_law_581 ?_
  refine v_sldK X XS h2 g2 dL_law_582 ?_
  obtain ⟨o, ho⟩ : ∃ o, ∀ P : oA → Prop, P o → sp_points W a1 a2 (cX_fd x) (cX_ask x) (cX_fs x) (pA P) := t_points hW
  refine lx_points X hkn (Nat.le_of_ble_eq_true rfl) hW C G S0 ho (fun r x' e I' => ?_)
  refine v_aload_n X 2 dL_law_586 rfl rfl ?_
  refine v_aload_n X 0 dL_law_587 rfl rfl ?_
  refine v_iload_n X 3 dL_law_588 rfl rfl ?_
  refine v_iconst X dL_law_589 (v := (1 : Int32)) (by decide) ?_
  refine v_iadd X dL_law_590 ?_
  refine v_sldK X XS h1 g1 dL_law_591 ?_
  refine v_aload_n X 0 dL_law_592 rfl rfl ?_
  refine v_iload_n X 3 dL_law_593 rfl rfl ?_
  refine v_iconst X dL_law_594 (v := (2 : Int32)) (by decide) ?_
  refine v_iadd X dL_law_595 ?_
  refine v_sldK X XS h2 g2 dL_law_596 ?_
  refine v_perm List.perm_append_comm ?_
  refine ly_points X hkn (Nat.le_of_ble_eq_true rfl) M N S1 (o := o) (by rw [f1, f2, f4]; exact ho) (fun r' y' e' J' => ?_)
  refine v_perm List.perm_append_comm ?_
  exact v_icmp_eq X (tgt := 1468) dL_law_600 (by decide) (fun _ => K _ _ _ _ _ _ _ _ _ I' (IY_cast J' rfl rfl f3 rfl)) (fun c => absurd (e.trans e'.symm) c)
set_option maxHeartbeats 4000000 in
set_option maxRecDepth 100000 in
theorem lc_lines {E : vE} {T : Nat → ClassId} {k n : Nat} (X : vX E cL_law 4 RL wsL_law (vT T) room_1) {b L : Nat} {xs : Nat → Int32} (XS : vS E b L xs) (hkn : k ≤ room_1.cells ∧ n ≤ room_1.slots) {oX oY : Nat} {x3 a1 a2 a3 a4 a5 : Int32} (h1 : vp_in (x3 + 1) L) (h2 : vp_in (x3 + 2) L) (h3 : vp_in (x3 + 3) L) (h4 : vp_in (x3 + 4) L) (h5 : vp_in (x3 + 5) L) (g1 : xs (x3 + 1).toNatClampNeg = a1) (g2 : xs (x3 + 2).toNatClampNeg = a2) (g3 : xs (x3 + 3).toNatClampNeg = a3) (g4 : xs (x3 + 4).toNatClampNeg = a4) (g5 : xs (x3 + 5).toNatClampNeg = a5) {W : AW} {R : AR} {fd : Int32} {fs : Nat → Int32} {tr : Int32} {ask : Int64} {S : SV} {x : CX} {y : CY} (I : IX W R fd fs tr ask S x) (J : IY W R fd fs tr ask S y) (K : LK E T k n b oX oY x3) : V E k n 605 [(0, .ref b), (1, .ref oX), (2, .ref oY), (3, .int x3)] [] (clX T oX x ++ clY T oY y) := by
  obtain ⟨C, G, rfl, rfl, rfl, rfl, S0⟩ := I
  obtain ⟨M, N, f1, f2, f3, f4, S1⟩ := J
  have hW : AWok W := M.1
  refine v_aload_n X 1 dL_law_605 rfl rfl ?_
  refine v_aload_n X 0 dL_law_606 rfl rfl ?_
  refine v_iload_n X 3 dL_law_607 rfl rfl ?_
  refine v_iconst X dL_law_608 (v := (1 : Int32)) (by decide) ?_
  refine v_iadd X dL_law_609 ?_
  refine v_sldK X XS h1 g1 dL_law_610 ?_
  refine v_aload_n X 0 dL_law_611 rfl rfl ?_
  refine v_iload_n X 3 dL_law_612 rfl rfl ?_
  refine v_iconst X dL_law_613 (v := (2 : Int32)) (by decide) ?_
  refine v_iadd X dL_law_614 ?_
  refine v_sldK X XS h2 g2 dL_law_615 ?_
  obtain ⟨o, ho⟩ : ∃ o, ∀ P : oA → Prop, P o → sp_lines W a1 a2 (cX_fd x) (cX_ask x) (cX_fs x) (pA P) := t_lines hW
  refine lx_lines X hkn (Nat.le_of_ble_eq_true rfl) hW C G S0 ho (fun r x' e I' => ?_)
  refine v_aload_n X 2 dL_law_619 rfl rfl ?_
  refine v_aload_n X 0 dL_law_620 rfl rfl ?_
  refine v_iload_n X 3 dL_law_621 rfl rfl ?_
  refine v_iconst X dL_law_622 (v := (1 : Int32)) (by decide) ?_
  refine v_iadd X dL_law_623 ?_
  refine v_sldK X XS h1 g1 dL_law_624 ?_
  refine v_aload_n X 0 dL_law_625 rfl rfl ?_
  refine v_iload_n X 3 dL_law_626 rfl rfl ?_
  refine v_iconst X dL_law_627 (v := (2 : Int32)) (by decide) ?_
  refine v_iadd X dL_law_628 ?_
  refine v_sldK X XS h2 g2 dL_law_629 ?_
  refine v_perm List.perm_append_comm ?_
  refine ly_lines X hkn (Nat.le_of_ble_eq_true rfl) M N S1 (o := o) (by rw [f1, f2, f4]; exact ho) (fun r' y' e' J' => ?_)
  refine v_perm List.perm_append_comm ?_
  exact v_icmp_eq X (tgt := 1468) dL_law_633 (by decide) (fun _ => K _ _ _ _ _ _ _ _ _ I' (IY_cast J' rfl rfl f3 rfl)) (fun c => absurd (e.trans e'.symm) c)
set_option maxHeartbeats 4000000 in
set_option maxRecDepth 100000 in
theorem lc_fault {E : vE} {T : Nat → ClassId} {k n : Nat} (X : vX E cL_law 4 RL wsL_law (vT T) room_1) {b L : Nat} {xs : Nat → Int32} (XS : vS E b L xs) (hkn : k ≤ room_1.cells ∧ n ≤ room_1.slots) {oX oY : Nat} {x3 a1 a2 a3 a4 a5 : Int32} (h1 : vp_in (x3 + 1) L) (h2 : vp_in (x3 + 2) L) (h3 : vp_in (x3 + 3) L) (h4 : vp_in (x3 + 4) L) (h5 : vp_in (x3 + 5) L) (g1 : xs (x3 + 1).toNatClampNeg = a1) (g2 : xs (x3 + 2).toNatClampNeg = a2) (g3 : xs (x3 + 3).toNatClampNeg = a3) (g4 : xs (x3 + 4).toNatClampNeg = a4) (g5 : xs (x3 + 5).toNatClampNeg = a5) {W : AW} {R : AR} {fd : Int32} {fs : Nat → Int32} {tr : Int32} {ask : Int64} {S : SV} {x : CX} {y : CY} (I : IX W R fd fs tr ask S x) (J : IY W R fd fs tr ask S y) (K : LK E T k n b oX oY x3) : V E k n 638 [(0, .ref b), (1, .ref oX), (2, .ref oY), (3, .int x3)] [] (clX T oX x ++ clY T oY y) := by
  obtain ⟨C, G, rfl, rfl, rfl, rfl, S0⟩ := I
  obtain ⟨M, N, f1, f2, f3, f4, S1⟩ := J
  have hW : AWok W := M.1
  refine v_aload_n X 1 dL_law_638 rfl rfl ?_
  refine v_aload_n X 0 dL_law_639 rfl rfl ?_
  refine v_iload_n X 3 dL_law_640 rfl rfl ?_
  refine v_iconst X dL_law_641 (v := (1 : Int32)) (by decide) ?_
  refine v_iadd X dL_law_642 ?_
  refine v_sldK X XS h1 g1 dL_law_643 ?_
  obtain ⟨o, ho⟩ : ∃ o, ∀ P : oA → Prop, P o → sp_fault W a1 (cX_fd x) (cX_ask x) (cX_fs x) (pA P) := t_fault
  refine lx_fault X hkn (Nat.le_of_ble_eq_true rfl) hW C G S0 ho (fun r x' e I' => ?_)
  refine v_aload_n X 2 dL_law_647 rfl rfl ?_
  refine v_aload_n X 0 dL_law_648 rfl rfl ?_
  refine v_iload_n X 3 dL_law_649 rfl rfl ?_
  refine v_iconst X dL_law_650 (v := (1 : Int32)) (by decide) ?_
  refine v_iadd X dL_law_651 ?_
  refine v_sldK X XS h1 g1 dL_law_652 ?_
  refine v_perm List.perm_append_comm ?_
  refine ly_fault X hkn (Nat.le_of_ble_eq_true rfl) M N S1 (o := o) (by rw [f1, f2, f4]; exact ho) (fun r' y' e' J' => ?_)
  refine v_perm List.perm_append_comm ?_
  exact v_icmp_eq X (tgt := 1468) dL_law_656 (by decide) (fun _ => K _ _ _ _ _ _ _ _ _ I' (IY_cast J' rfl rfl f3 rfl)) (fun c => absurd (e.trans e'.symm) c)
set_option maxHeartbeats 4000000 in
set_option maxRecDepth 100000 in
theorem lc_mean {E : vE} {T : Nat → ClassId} {k n : Nat} (X : vX E cL_law 4 RL wsL_law (vT T) room_1) {b L : Nat} {xs : Nat → Int32} (XS : vS E b L xs) (hkn : k ≤ room_1.cells ∧ n ≤ room_1.slots) {oX oY : Nat} {x3 a1 a2 a3 a4 a5 : Int32} (h1 : vp_in (x3 + 1) L) (h2 : vp_in (x3 + 2) L) (h3 : vp_in (x3 + 3) L) (h4 : vp_in (x3 + 4) L) (h5 : vp_in (x3 + 5) L) (g1 : xs (x3 + 1).toNatClampNeg = a1) (g2 : xs (x3 + 2).toNatClampNeg = a2) (g3 : xs (x3 + 3).toNatClampNeg = a3) (g4 : xs (x3 + 4).toNatClampNeg = a4) (g5 : xs (x3 + 5).toNatClampNeg = a5) {W : AW} {R : AR} {fd : Int32} {fs : Nat → Int32} {tr : Int32} {ask : Int64} {S : SV} {x : CX} {y : CY} (I : IX W R fd fs tr ask S x) (J : IY W R fd fs tr ask S y) (K : LK E T k n b oX oY x3) : V E k n 661 [(0, .ref b), (1, .ref oX), (2, .ref oY), (3, .int x3)] [] (clX T oX x ++ clY T oY y) := by
  obtain ⟨C, G, rfl, rfl, rfl, rfl, S0⟩ := I
  obtain ⟨M, N, f1, f2, f3, f4, S1⟩ := J
  have hW : AWok W := M.1
  refine v_aload_n X 1 dL_law_661 rfl rfl ?_
  refine v_aload_n X 0 dL_law_662 rfl rfl ?_
  refine v_iload_n X 3 dL_law_663 rfl rfl ?_
  refine v_iconst X dL_law_664 (v := (1 : Int32)) (by decide) ?_
  refine v_iadd X dL_law_665 ?_
  refine v_sldK X XS h1 g1 dL_law_666 ?_
  obtain ⟨o, ho⟩ : ∃ o, ∀ P : oF → Prop, P o → sp_mean W a1 (cX_fd x) (cX_fs x) (pF P) := t_mean
  refine lx_mean X hkn (Nat.le_of_ble_eq_true rfl) hW C G S0 ho (fun r x' e I' => ?_)
  refine v_aload_n X 2 dL_law_670 rfl rfl ?_
  refine v_aload_n X 0 dL_law_671 rfl rfl ?_
  refine v_iload_n X 3 dL_law_672 rfl rfl ?_
  refine v_iconst X dL_law_673 (v := (1 : Int32)) (by decide) ?_
  refine v_iadd X dL_law_674 ?_
  refine v_sldK X XS h1 g1 dL_law_675 ?_
  refine v_perm List.perm_append_comm ?_
  refine ly_mean X hkn (Nat.le_of_ble_eq_true rfl) M N S1 (o := o) (by rw [f1, f2]; exact ho) (fun r' y' e' J' => ?_)
  refine v_perm List.perm_append_comm ?_
  exact v_icmp_eq X (tgt := 1468) dL_law_679 (by decide) (fun _ => K _ _ _ _ _ _ _ _ _ I' (IY_cast J' rfl rfl f3 f4)) (fun c => absurd (e.trans e'.symm) c)
set_option maxHeartbeats 4000000 in
set_option maxRecDepth 100000 in
theorem lc_perp {E : vE} {T : Nat → ClassId} {k n : Nat} (X : vX E cL_law 4 RL wsL_law (vT T) room_1) {b L : Nat} {xs : Nat → Int32} (XS : vS E b L xs) (hkn : k ≤ room_1.cells ∧ n ≤ room_1.slots) {oX oY : Nat} {x3 a1 a2 a3 a4 a5 : Int32} (h1 : vp_in (x3 + 1) L) (h2 : vp_in (x3 + 2) L) (h3 : vp_in (x3 + 3) L) (h4 : vp_in (x3 + 4) L) (h5 : vp_in (x3 + 5) L) (g1 : xs (x3 + 1).toNatClampNeg = a1) (g2 : xs (x3 + 2).toNatClampNeg = a2) (g3 : xs (x3 + 3).toNatClampNeg = a3) (g4 : xs (x3 + 4).toNatClampNeg = a4) (g5 : xs (x3 + 5).toNatClampNeg = a5) {W : AW} {R : AR} {fd : Int32} {fs : Nat → Int32} {tr : Int32} {ask : Int64} {S : SV} {x : CX} {y : CY} (I : IX W R fd fs tr ask S x) (J : IY W R fd fs tr ask S y) (K : LK E T k n b oX oY x3) : V E k n 684 [(0, .ref b), (1, .ref oX), (2, .ref oY), (3, .int x3)] [] (clX T oX x ++ clY T oY y) := by
  obtain ⟨C, G, rfl, rfl, rfl, rfl, S0⟩ := I
  obtain ⟨M, N, f1, f2, f3, f4, S1⟩ := J
  have hW : AWok W := M.1
  refine v_aload_n X 1 dL_law_684 rfl rfl ?_
  refine v_aload_n X 0 dL_law_685 rfl rfl ?_
  refine v_iload_n X 3 dL_law_686 rfl rfl ?_
  refine v_iconst X dL_law_687 (v := (1 : Int32)) (by decide) ?_
  refine v_iadd X dL_law_688 ?_
  refine v_sldK X XS h1 g1 dL_law_689 ?_
  refine v_aload_n X 0 dL_law_690 rfl rfl ?_
  refine v_iload_n X 3 dL_law_691 rfl rfl ?_
  refine v_iconst X dL_law_692 (v := (2 : Int32)) (by decide) ?_
  refine v_iadd X dL_law_693 ?_
  refine v_sldK X XS h2 g2 dL_law_694 ?_
  refine v_i2l X dL_law_695 ?_
  refine v_bipush X dL_law_696 (v := (32 : Int32)) (by decide) ?_
  refine v_lshl X dL_law_698 ?_
  refine v_aload_n X 0 dL_law_699 rfl rfl ?_
  refine v_iload_n X 3 dL_law_700 rfl rfl ?_
  refine v_iconst X dL_law_701 (v := (3 : Int32)) (by decide) ?_
  refine v_iadd X dL_law_702 ?_
  refine v_sldK X XS h3 g3 dL_law_703 ?_
  refine v_i2l X dL_law_704 ?_
  refine v_ldc2 X (v := (4294967295 : Int64)) (List.mem_of_getElem? (i := 6) rfl) dL_law_705 ?_
  refine v_land X dL_law_708 ?_
  refine v_lor X dL_law_709 ?_
  obtain ⟨o, ho⟩ : ∃ o, ∀ P : oA → Prop, P o → sp_perp W a1 ((vshl a2.toInt64 32) ||| (a3.toInt64 &&& (4294967295 : Int64))) (cX_fd x) (cX_ask x) (cX_fs x) (pA P) := t_perp
  refine lx_perp X hkn (Nat.le_of_ble_eq_true rfl) hW C G S0 ho (fun r x' e I' => ?_)
  refine v_aload_n X 2 dL_law_713 rfl rfl ?_
  refine v_aload_n X 0 dL_law_714 rfl rfl ?_
  refine v_iload_n X 3 dL_law_715 rfl rfl ?_
  refine v_iconst X dL_law_716 (v := (1 : Int32)) (by decide) ?_
  refine v_iadd X dL_law_717 ?_
  refine v_sldK X XS h1 g1 dL_law_718 ?_
  refine v_aload_n X 0 dL_law_719 rfl rfl ?_
  refine v_iload_n X 3 dL_law_720 rfl rfl ?_
  refine v_iconst X dL_law_721 (v := (2 : Int32)) (by decide) ?_
  refine v_iadd X dL_law_722 ?_
  refine v_sldK X XS h2 g2 dL_law_723 ?_
  refine v_i2l X dL_law_724 ?_
  refine v_bipush X dL_law_725 (v := (32 : Int32)) (by decide) ?_
  refine v_lshl X dL_law_727 ?_
  refine v_aload_n X 0 dL_law_728 rfl rfl ?_
  refine v_iload_n X 3 dL_law_729 rfl rfl ?_
  refine v_iconst X dL_law_730 (v := (3 : Int32)) (by decide) ?_
  refine v_iadd X dL_law_731 ?_
  refine v_sldK X XS h3 g3 dL_law_732 ?_
  refine v_i2l X dL_law_733 ?_
  refine v_ldc2 X (v := (4294967295 : Int64)) (List.mem_of_getElem? (i := 6) rfl) dL_law_734 ?_
  refine v_land X dL_law_737 ?_
  refine v_lor X dL_law_738 ?_
  refine v_perm List.perm_append_comm ?_
  refine ly_perp X hkn (Nat.le_of_ble_eq_true rfl) M N S1 (o := o) (by rw [f1, f2, f4]; exact ho) (fun r' y' e' J' => ?_)
  refine v_perm List.perm_append_comm ?_
  exact v_icmp_eq X (tgt := 1468) dL_law_742 (by decide) (fun _ => K _ _ _ _ _ _ _ _ _ I' (IY_cast J' rfl rfl f3 rfl)) (fun c => absurd (e.trans e'.symm) c)
set_option maxHeartbeats 4000000 in
set_option maxRecDepth 100000 in
theorem lc_span {E : vE} {T : Nat → ClassId} {k n : Nat} (X : vX E cL_law 4 RL wsL_law (vT T) room_1) {b L : Nat} {xs : Nat → Int32} (XS : vS E b L xs) (hkn : k ≤ room_1.cells ∧ n ≤ room_1.slots) {oX oY : Nat} {x3 a1 a2 a3 a4 a5 : Int32} (h1 : vp_in (x3 + 1) L) (h2 : vp_in (x3 + 2) L) (h3 : vp_in (x3 + 3) L) (h4 : vp_in (x3 + 4) L) (h5 : vp_in (x3 + 5) L) (g1 : xs (x3 + 1).toNatClampNeg = a1) (g2 : xs (x3 + 2).toNatClampNeg = a2) (g3 : xs (x3 + 3).toNatClampNeg = a3) (g4 : xs (x3 + 4).toNatClampNeg = a4) (g5 : xs (x3 + 5).toNatClampNeg = a5) {W : AW} {R : AR} {fd : Int32} {fs : Nat → Int32} {tr : Int32} {ask : Int64} {S : SV} {x : CX} {y : CY} (I : IX W R fd fs tr ask S x) (J : IY W R fd fs tr ask S y) (K : LK E T k n b oX oY x3) : V E k n 747 [(0, .ref b), (1, .ref oX), (2, .ref oY), (3, .int x3)] [] (clX T oX x ++ clY T oY y) := by
  obtain ⟨C, G, rfl, rfl, rfl, rfl, S0⟩ := I
  obtain ⟨M, N, f1, f2, f3, f4, S1⟩ := J
  have hW : AWok W := M.1
  refine v_aload_n X 1 dL_law_747 rfl rfl ?_
  refine v_aload_n X 0 dL_law_748 rfl rfl ?_
  refine v_iload_n X 3 dL_law_749 rfl rfl ?_
  refine v_iconst X dL_law_750 (v := (1 : Int32)) (by decide) ?_
  refine v_iadd X dL_law_751 ?_
  refine v_sldK X XS h1 g1 dL_law_752 ?_
  refine v_aload_n X 0 dL_law_753 rfl rfl ?_
  refine v_iload_n X 3 dL_law_754 rfl rfl ?_
  refine v_iconst X dL_law_755 (v := (2 : Int32)) (by decide) ?_
  refine v_iadd X dL_law_756 ?_
  refine v_sldK X XS h2 g2 dL_law_757 ?_
  refine v_aload_n X 0 dL_law_758 rfl rfl ?_
  refine v_iload_n X 3 dL_law_759 rfl rfl ?_
  refine v_iconst X dL_law_760 (v := (3 : Int32)) (by decide) ?_
  refine v_iadd X dL_law_761 ?_
  refine v_sldK X XS h3 g3 dL_law_762 ?_
  obtain ⟨o, ho⟩ : ∃ o, ∀ P : oA → Prop, P o → sp_span W a1 a2 a3 (cX_fd x) (cX_ask x) (cX_fs x) (pA P) := t_span hW
  refine lx_span X hkn (Nat.le_of_ble_eq_true rfl) hW C G S0 ho (fun r x' e I' => ?_)
  refine v_aload_n X 2 dL_law_766 rfl rfl ?_
  refine v_aload_n X 0 dL_law_767 rfl rfl ?_
  refine v_iload_n X 3 dL_law_768 rfl rfl ?_
  refine v_iconst X dL_law_769 (v := (1 : Int32)) (by decide) ?_
  refine v_iadd X dL_law_770 ?_
  refine v_sldK X XS h1 g1 dL_law_771 ?_
  refine v_aload_n X 0 dL_law_772 rfl rfl ?_
  refine v_iload_n X 3 dL_law_773 rfl rfl ?_
  refine v_iconst X dL_law_774 (v := (2 : Int32)) (by decide) ?_
  refine v_iadd X dL_law_775 ?_
  refine v_sldK X XS h2 g2 dL_law_776 ?_
  refine v_aload_n X 0 dL_law_777 rfl rfl ?_
  refine v_iload_n X 3 dL_law_778 rfl rfl ?_
  refine v_iconst X dL_law_779 (v := (3 : Int32)) (by decide) ?_
  refine v_iadd X dL_law_780 ?_
  refine v_sldK X XS h3 g3 dL_law_781 ?_
  refine v_perm List.perm_append_comm ?_
  refine ly_span X hkn (Nat.le_of_ble_eq_true rfl) M N S1 (o := o) (by rw [f1, f2, f4]; exact ho) (fun r' y' e' J' => ?_)
  refine v_perm List.perm_append_comm ?_
  exact v_icmp_eq X (tgt := 1468) dL_law_785 (by decide) (fun _ => K _ _ _ _ _ _ _ _ _ I' (IY_cast J' rfl rfl f3 rfl)) (fun c => absurd (e.trans e'.symm) c)
set_option maxHeartbeats 4000000 in
set_option maxRecDepth 100000 in
theorem lc_regular {E : vE} {T : Nat → ClassId} {k n : Nat} (X : vX E cL_law 4 RL wsL_law (vT T) room_1) {b L : Nat} {xs : Nat → Int32} (XS : vS E b L xs) (hkn : k ≤ room_1.cells ∧ n ≤ room_1.slots) {oX oY : Nat} {x3 a1 a2 a3 a4 a5 : Int32} (h1 : vp_in (x3 + 1) L) (h2 : vp_in (x3 + 2) L) (h3 : vp_in (x3 + 3) L) (h4 : vp_in (x3 + 4) L) (h5 : vp_in (x3 + 5) L) (g1 : xs (x3 + 1).toNatClampNeg = a1) (g2 : xs (x3 + 2).toNatClampNeg = a2) (g3 : xs (x3 + 3).toNatClampNeg = a3) (g4 : xs (x3 + 4).toNatClampNeg = a4) (g5 : xs (x3 + 5).toNatClampNeg = a5) {W : AW} {R : AR} {fd : Int32} {fs : Nat → Int32} {tr : Int32} {ask : Int64} {S : SV} {x : CX} {y : CY} (I : IX W R fd fs tr ask S x) (J : IY W R fd fs tr ask S y) (K : LK E T k n b oX oY x3) : V E k n 790 [(0, .ref b), (1, .ref oX), (2, .ref oY), (3, .int x3)] [] (clX T oX x ++ clY T oY y) := by
  obtain ⟨C, G, rfl, rfl, rfl, rfl, S0⟩ := I
  obtain ⟨M, N, f1, f2, f3, f4, S1⟩ := J
  have hW : AWok W := M.1
  refine v_aload_n X 1 dL_law_790 rfl rfl ?_
  refine v_aload_n X 0 dL_law_791 rfl rfl ?_
  refine v_iload_n X 3 dL_law_792 rfl rfl ?_
  refine v_iconst X dL_law_793 (v := (1 : Int32)) (by decide) ?_
  refine v_iadd X dL_law_794 ?_
  refine v_sldK X XS h1 g1 dL_law_795 ?_
  refine v_aload_n X 0 dL_law_796 rfl rfl ?_
  refine v_iload_n X 3 dL_law_797 rfl rfl ?_
  refine v_iconst X dL_law_798 (v := (2 : Int32)) (by decide) ?_
  refine v_iadd X dL_law_799 ?_
  refine v_sldK X XS h2 g2 dL_law_800 ?_
  obtain ⟨o, ho⟩ : ∃ o, ∀ P : oF → Prop, P o → sp_regular W a1 a2 (cX_fd x) (cX_fs x) (pF P) := t_regular hW
  refine lx_regular X hkn (Nat.le_of_ble_eq_true rfl) hW C G S0 ho (fun r x' e I' => ?_)
  refine v_aload_n X 2 dL_law_804 rfl rfl ?_
  refine v_aload_n X 0 dL_law_805 rfl rfl ?_
  refine v_iload_n X 3 dL_law_806 rfl rfl ?_
  refine v_iconst X dL_law_807 (v := (1 : Int32)) (by decide) ?_
  refine v_iadd X dL_law_808 ?_
  refine v_sldK X XS h1 g1 dL_law_809 ?_
  refine v_aload_n X 0 dL_law_810 rfl rfl ?_
  refine v_iload_n X 3 dL_law_811 rfl rfl ?_
  refine v_iconst X dL_law_812 (v := (2 : Int32)) (by decide) ?_
  refine v_iadd X dL_law_813 ?_
  refine v_sldK X XS h2 g2 dL_law_814 ?_
  refine v_perm List.perm_append_comm ?_
  refine ly_regular X hkn (Nat.le_of_ble_eq_true rfl) M N S1 (o := o) (by rw [f1, f2]; exact ho) (fun r' y' e' J' => ?_)
  refine v_perm List.perm_append_comm ?_
  exact v_icmp_eq X (tgt := 1468) dL_law_818 (by decide) (fun _ => K _ _ _ _ _ _ _ _ _ I' (IY_cast J' rfl rfl f3 f4)) (fun c => absurd (e.trans e'.symm) c)
set_option maxHeartbeats 4000000 in
set_option maxRecDepth 100000 in
theorem lc_centres {E : vE} {T : Nat → ClassId} {k n : Nat} (X : vX E cL_law 4 RL wsL_law (vT T) room_1) {b L : Nat} {xs : Nat → Int32} (XS : vS E b L xs) (hkn : k ≤ room_1.cells ∧ n ≤ room_1.slots) {oX oY : Nat} {x3 a1 a2 a3 a4 a5 : Int32} (h1 : vp_in (x3 + 1) L) (h2 : vp_in (x3 + 2) L) (h3 : vp_in (x3 + 3) L) (h4 : vp_in (x3 + 4) L) (h5 : vp_in (x3 + 5) L) (g1 : xs (x3 + 1).toNatClampNeg = a1) (g2 : xs (x3 + 2).toNatClampNeg = a2) (g3 : xs (x3 + 3).toNatClampNeg = a3) (g4 : xs (x3 + 4).toNatClampNeg = a4) (g5 : xs (x3 + 5).toNatClampNeg = a5) {W : AW} {R : AR} {fd : Int32} {fs : Nat → Int32} {tr : Int32} {ask : Int64} {S : SV} {x : CX} {y : CY} (I : IX W R fd fs tr ask S x) (J : IY W R fd fs tr ask S y) (K : LK E T k n b oX oY x3) : V E k n 823 [(0, .ref b), (1, .ref oX), (2, .ref oY), (3, .int x3)] [] (clX T oX x ++ clY T oY y) := by
  obtain ⟨C, G, rfl, rfl, rfl, rfl, S0⟩ := I
  obtain ⟨M, N, f1, f2, f3, f4, S1⟩ := J
  have hW : AWok W := M.1
  refine v_aload_n X 1 dL_law_823 rfl rfl ?_
  refine v_aload_n X 0 dL_law_824 rfl rfl ?_
  refine v_iload_n X 3 dL_law_825 rfl rfl ?_
  refine v_iconst X dL_law_826 (v := (1 : Int32)) (by decide) ?_
  refine v_iadd X dL_law_827 ?_
  refine v_sldK X XS h1 g1 dL_law_828 ?_
  refine v_aload_n X 0 dL_law_829 rfl rfl ?_
  refine v_iload_n X 3 dL_law_830 rfl rfl ?_
  refine v_iconst X dL_law_831 (v := (2 : Int32)) (by decide) ?_
  refine v_iadd X dL_law_832 ?_
  refine v_sldK X XS h2 g2 dL_law_833 ?_
  refine v_aload_n X 0 dL_law_834 rfl rfl ?_
  refine v_iload_n X 3 dL_law_835 rfl rfl ?_
  refine v_iconst X dL_law_836 (v := (3 : Int32)) (by decide) ?_
  refine v_iadd X dL_law_837 ?_
  refine v_sldK X XS h3 g3 dL_law_838 ?_
  refine v_aload_n X 0 dL_law_839 rfl rfl ?_
  refine v_iload_n X 3 dL_law_840 rfl rfl ?_
  refine v_iconst X dL_law_841 (v := (4 : Int32)) (by decide) ?_
  refine v_iadd X dL_law_842 ?_
  refine v_sldK X XS h4 g4 dL_law_843 ?_
  obtain ⟨o, ho⟩ : ∃ o, ∀ P : oF → Prop, P o → sp_centres W a1 a2 a3 a4 (cX_fd x) (cX_fs x) (pF P) := t_centres hW
  refine lx_centres X hkn (Nat.le_of_ble_eq_true rfl) hW C G S0 ho (fun r x' e I' => ?_)
  refine v_aload_n X 2 dL_law_847 rfl rfl ?_
  refine v_aload_n X 0 dL_law_848 rfl rfl ?_
  refine v_iload_n X 3 dL_law_849 rfl rfl ?_
  refine v_iconst X dL_law_850 (v := (1 : Int32)) (by decide) ?_
  refine v_iadd X dL_law_851 ?_
  refine v_sldK X XS h1 g1 dL_law_852 ?_
  refine v_aload_n X 0 dL_law_853 rfl rfl ?_
  refine v_iload_n X 3 dL_law_854 rfl rfl ?_
  refine v_iconst X dL_law_855 (v := (2 : Int32)) (by decide) ?_
  refine v_iadd X dL_law_856 ?_
  refine v_sldK X XS h2 g2 dL_law_857 ?_
  refine v_aload_n X 0 dL_law_858 rfl rfl ?_
  refine v_iload_n X 3 dL_law_859 rfl rfl ?_
  refine v_iconst X dL_law_860 (v := (3 : Int32)) (by decide) ?_
  refine v_iadd X dL_law_861 ?_
  refine v_sldK X XS h3 g3 dL_law_862 ?_
  refine v_aload_n X 0 dL_law_863 rfl rfl ?_
  refine v_iload_n X 3 dL_law_864 rfl rfl ?_
  refine v_iconst X dL_law_865 (v := (4 : Int32)) (by decide) ?_
  refine v_iadd X dL_law_866 ?_
  refine v_sldK X XS h4 g4 dL_law_867 ?_
  refine v_perm List.perm_append_comm ?_
  refine ly_centres X hkn (Nat.le_of_ble_eq_true rfl) M N S1 (o := o) (by rw [f1, f2]; exact ho) (fun r' y' e' J' => ?_)
  refine v_perm List.perm_append_comm ?_
  exact v_icmp_eq X (tgt := 1468) dL_law_871 (by decide) (fun _ => K _ _ _ _ _ _ _ _ _ I' (IY_cast J' rfl rfl f3 f4)) (fun c => absurd (e.trans e'.symm) c)
set_option maxHeartbeats 4000000 in
set_option maxRecDepth 100000 in
theorem lc_ovoid {E : vE} {T : Nat → ClassId} {k n : Nat} (X : vX E cL_law 4 RL wsL_law (vT T) room_1) {b L : Nat} {xs : Nat → Int32} (XS : vS E b L xs) (hkn : k ≤ room_1.cells ∧ n ≤ room_1.slots) {oX oY : Nat} {x3 a1 a2 a3 a4 a5 : Int32} (h1 : vp_in (x3 + 1) L) (h2 : vp_in (x3 + 2) L) (h3 : vp_in (x3 + 3) L) (h4 : vp_in (x3 + 4) L) (h5 : vp_in (x3 + 5) L) (g1 : xs (x3 + 1).toNatClampNeg = a1) (g2 : xs (x3 + 2).toNatClampNeg = a2) (g3 : xs (x3 + 3).toNatClampNeg = a3) (g4 : xs (x3 + 4).toNatClampNeg = a4) (g5 : xs (x3 + 5).toNatClampNeg = a5) {W : AW} {R : AR} {fd : Int32} {fs : Nat → Int32} {tr : Int32} {ask : Int64} {S : SV} {x : CX} {y : CY} (I : IX W R fd fs tr ask S x) (J : IY W R fd fs tr ask S y) (K : LK E T k n b oX oY x3) : V E k n 876 [(0, .ref b), (1, .ref oX), (2, .ref oY), (3, .int x3)] [] (clX T oX x ++ clY T oY y) := by
  obtain ⟨C, G, rfl, rfl, rfl, rfl, S0⟩ := I
  obtain ⟨M, N, f1, f2, f3, f4, S1⟩ := J
  have hW : AWok W := M.1
  refine v_aload_n X 1 dL_law_876 rfl rfl ?_
  refine v_aload_n X 0 dL_law_877 rfl rfl ?_
  refine v_iload_n X 3 dL_law_878 rfl rfl ?_
  refine v_iconst X dL_law_879 (v := (1 : Int32)) (by decide) ?_
  refine v_iadd X dL_law_880 ?_
  refine v_sldK X XS h1 g1 dL_law_881 ?_
  refine v_aload_n X 0 dL_law_882 rfl rfl ?_
  refine v_iload_n X 3 dL_law_883 rfl rfl ?_
  refine v_iconst X dL_law_884 (v := (2 : Int32)) (by decide) ?_
  refine v_iadd X dL_law_885 ?_
  refine v_sldK X XS h2 g2 dL_law_886 ?_
  obtain ⟨o, ho⟩ : ∃ o, ∀ P : oT → Prop, P o → sp_seek true (cX_sq x, cX_sM x, cX_sT x, cX_sC x) W a1 a2 (cX_fd x) (cX_tr x) (cX_ask x) (cX_fs x) (pT P) := t_seek
  refine lx_ovoid X hkn (Nat.le_of_ble_eq_true rfl) hW C G S0 ho (fun r x' e I' => ?_)
  refine v_aload_n X 2 dL_law_890 rfl rfl ?_
  refine v_aload_n X 0 dL_law_891 rfl rfl ?_
  refine v_iload_n X 3 dL_law_892 rfl rfl ?_
  refine v_iconst X dL_law_893 (v := (1 : Int32)) (by decide) ?_
  refine v_iadd X dL_law_894 ?_
  refine v_sldK X XS h1 g1 dL_law_895 ?_
  refine v_aload_n X 0 dL_law_896 rfl rfl ?_
  refine v_iload_n X 3 dL_law_897 rfl rfl ?_
  refine v_iconst X dL_law_898 (v := (2 : Int32)) (by decide) ?_
  refine v_iadd X dL_law_899 ?_
  refine v_sldK X XS h2 g2 dL_law_900 ?_
  refine v_perm List.perm_append_comm ?_
  refine ly_ovoid X hkn (Nat.le_of_ble_eq_true rfl) M N S1 (o := o) (by rw [f1, f2, f3, f4]; exact ho) (fun r' y' e' J' => ?_)
  refine v_perm List.perm_append_comm ?_
  exact v_icmp_eq X (tgt := 1468) dL_law_904 (by decide) (fun _ => K _ _ _ _ _ _ _ _ _ I' (IY_cast J' rfl rfl rfl rfl)) (fun c => absurd (e.trans e'.symm) c)
set_option maxHeartbeats 4000000 in
set_option maxRecDepth 100000 in
theorem lc_spread {E : vE} {T : Nat → ClassId} {k n : Nat} (X : vX E cL_law 4 RL wsL_law (vT T) room_1) {b L : Nat} {xs : Nat → Int32} (XS : vS E b L xs) (hkn : k ≤ room_1.cells ∧ n ≤ room_1.slots) {oX oY : Nat} {x3 a1 a2 a3 a4 a5 : Int32} (h1 : vp_in (x3 + 1) L) (h2 : vp_in (x3 + 2) L) (h3 : vp_in (x3 + 3) L) (h4 : vp_in (x3 + 4) L) (h5 : vp_in (x3 + 5) L) (g1 : xs (x3 + 1).toNatClampNeg = a1) (g2 : xs (x3 + 2).toNatClampNeg = a2) (g3 : xs (x3 + 3).toNatClampNeg = a3) (g4 : xs (x3 + 4).toNatClampNeg = a4) (g5 : xs (x3 + 5).toNatClampNeg = a5) {W : AW} {R : AR} {fd : Int32} {fs : Nat → Int32} {tr : Int32} {ask : Int64} {S : SV} {x : CX} {y : CY} (I : IX W R fd fs tr ask S x) (J : IY W R fd fs tr ask S y) (K : LK E T k n b oX oY x3) : V E k n 909 [(0, .ref b), (1, .ref oX), (2, .ref oY), (3, .int x3)] [] (clX T oX x ++ clY T oY y) := by
  obtain ⟨C, G, rfl, rfl, rfl, rfl, S0⟩ := I
  obtain ⟨M, N, f1, f2, f3, f4, S1⟩ := J
  have hW : AWok W := M.1
  refine v_aload_n X 1 dL_law_909 rfl rfl ?_
  refine v_aload_n X 0 dL_law_910 rfl rfl ?_
  refine v_iload_n X 3 dL_law_911 rfl rfl ?_
  refine v_iconst X dL_law_912 (v := (1 : Int32)) (by decide) ?_
  refine v_iadd X dL_law_913 ?_
  refine v_sldK X XS h1 g1 dL_law_914 ?_
  refine v_aload_n X 0 dL_law_915 rfl rfl ?_
  refine v_iload_n X 3 dL_law_916 rfl rfl ?_
  refine v_iconst X dL_law_917 (v := (2 : Int32)) (by decide) ?_
  refine v_iadd X dL_law_918 ?_
  refine v_sldK X XS h2 g2 dL_law_919 ?_
  obtain ⟨o, ho⟩ : ∃ o, ∀ P : oT → Prop, P o → sp_seek false (cX_sq x, cX_sM x, cX_sT x, cX_sC x) W a1 a2 (cX_fd x) (cX_tr x) (cX_ask x) (cX_fs x) (pT P) := t_seek
  refine lx_spread X hkn (Nat.le_of_ble_eq_true rfl) hW C G S0 ho (fun r x' e I' => ?_)
  refine v_aload_n X 2 dL_law_923 rfl rfl ?_
  refine v_aload_n X 0 dL_law_924 rfl rfl ?_
  refine v_iload_n X 3 dL_law_925 rfl rfl ?_
  refine v_iconst X dL_law_926 (v := (1 : Int32)) (by decide) ?_
  refine v_iadd X dL_law_927 ?_
  refine v_sldK X XS h1 g1 dL_law_928 ?_
  refine v_aload_n X 0 dL_law_929 rfl rfl ?_
  refine v_iload_n X 3 dL_law_930 rfl rfl ?_
  refine v_iconst X dL_law_931 (v := (2 : Int32)) (by decide) ?_
  refine v_iadd X dL_law_932 ?_
  refine v_sldK X XS h2 g2 dL_law_933 ?_
  refine v_perm List.perm_append_comm ?_
  refine ly_spread X hkn (Nat.le_of_ble_eq_true rfl) M N S1 (o := o) (by rw [f1, f2, f3, f4]; exact ho) (fun r' y' e' J' => ?_)
  refine v_perm List.perm_append_comm ?_
  exact v_icmp_eq X (tgt := 1468) dL_law_937 (by decide) (fun _ => K _ _ _ _ _ _ _ _ _ I' (IY_cast J' rfl rfl rfl rfl)) (fun c => absurd (e.trans e'.symm) c)
set_option maxHeartbeats 4000000 in
set_option maxRecDepth 100000 in
theorem lc_ovoids {E : vE} {T : Nat → ClassId} {k n : Nat} (X : vX E cL_law 4 RL wsL_law (vT T) room_1) {b L : Nat} {xs : Nat → Int32} (XS : vS E b L xs) (hkn : k ≤ room_1.cells ∧ n ≤ room_1.slots) {oX oY : Nat} {x3 a1 a2 a3 a4 a5 : Int32} (h1 : vp_in (x3 + 1) L) (h2 : vp_in (x3 + 2) L) (h3 : vp_in (x3 + 3) L) (h4 : vp_in (x3 + 4) L) (h5 : vp_in (x3 + 5) L) (g1 : xs (x3 + 1).toNatClampNeg = a1) (g2 : xs (x3 + 2).toNatClampNeg = a2) (g3 : xs (x3 + 3).toNatClampNeg = a3) (g4 : xs (x3 + 4).toNatClampNeg = a4) (g5 : xs (x3 + 5).toNatClampNeg = a5) {W : AW} {R : AR} {fd : Int32} {fs : Nat → Int32} {tr : Int32} {ask : Int64} {S : SV} {x : CX} {y : CY} (I : IX W R fd fs tr ask S x) (J : IY W R fd fs tr ask S y) (K : LK E T k n b oX oY x3) : V E k n 942 [(0, .ref b), (1, .ref oX), (2, .ref oY), (3, .int x3)] [] (clX T oX x ++ clY T oY y) := by
  obtain ⟨C, G, rfl, rfl, rfl, rfl, S0⟩ := I
  obtain ⟨M, N, f1, f2, f3, f4, S1⟩ := J
  have hW : AWok W := M.1
  refine v_aload_n X 1 dL_law_942 rfl rfl ?_
  refine v_aload_n X 0 dL_law_943 rfl rfl ?_
  refine v_iload_n X 3 dL_law_944 rfl rfl ?_
  refine v_iconst X dL_law_945 (v := (1 : Int32)) (by decide) ?_
  refine v_iadd X dL_law_946 ?_
  refine v_sldK X XS h1 g1 dL_law_947 ?_
  refine v_aload_n X 0 dL_law_948 rfl rfl ?_
  refine v_iload_n X 3 dL_law_949 rfl rfl ?_
  refine v_iconst X dL_law_950 (v := (2 : Int32)) (by decide) ?_
  refine v_iadd X dL_law_951 ?_
  refine v_sldK X XS h2 g2 dL_law_952 ?_
  obtain ⟨o, ho⟩ : ∃ o, ∀ P : oT → Prop, P o → sp_ovoids (cX_sq x, cX_sM x, cX_sT x, cX_sC x) W a1 a2 (cX_fd x) (cX_tr x) (cX_ask x) (cX_fs x) (pT P) := t_ovoids
  refine lx_ovoids X hkn (Nat.le_of_ble_eq_true rfl) hW C G S0 ho (fun r x' e I' => ?_)
  refine v_aload_n X 2 dL_law_956 rfl rfl ?_
  refine v_aload_n X 0 dL_law_957 rfl rfl ?_
  refine v_iload_n X 3 dL_law_958 rfl rfl ?_
  refine v_iconst X dL_law_959 (v := (1 : Int32)) (by decide) ?_
  refine v_iadd X dL_law_960 ?_
  refine v_sldK X XS h1 g1 dL_law_961 ?_
  refine v_aload_n X 0 dL_law_962 rfl rfl ?_
  refine v_iload_n X 3 dL_law_963 rfl rfl ?_
  refine v_iconst X dL_law_964 (v := (2 : Int32)) (by decide) ?_
  refine v_iadd X dL_law_965 ?_
  refine v_sldK X XS h2 g2 dL_law_966 ?_
  refine v_perm List.perm_append_comm ?_
  refine ly_ovoids X hkn (Nat.le_of_ble_eq_true rfl) M N S1 (o := o) (by rw [f1, f2, f3, f4]; exact ho) (fun r' y' e' J' => ?_)
  refine v_perm List.perm_append_comm ?_
  exact v_icmp_eq X (tgt := 1468) dL_law_970 (by decide) (fun _ => K _ _ _ _ _ _ _ _ _ I' (IY_cast J' rfl rfl rfl rfl)) (fun c => absurd (e.trans e'.symm) c)
set_option maxHeartbeats 4000000 in
set_option maxRecDepth 100000 in
theorem lc_tries {E : vE} {T : Nat → ClassId} {k n : Nat} (X : vX E cL_law 4 RL wsL_law (vT T) room_1) {b L : Nat} {xs : Nat → Int32} (XS : vS E b L xs) (hkn : k ≤ room_1.cells ∧ n ≤ room_1.slots) {oX oY : Nat} {x3 a1 a2 a3 a4 a5 : Int32} (h1 : vp_in (x3 + 1) L) (h2 : vp_in (x3 + 2) L) (h3 : vp_in (x3 + 3) L) (h4 : vp_in (x3 + 4) L) (h5 : vp_in (x3 + 5) L) (g1 : xs (x3 + 1).toNatClampNeg = a1) (g2 : xs (x3 + 2).toNatClampNeg = a2) (g3 : xs (x3 + 3).toNatClampNeg = a3) (g4 : xs (x3 + 4).toNatClampNeg = a4) (g5 : xs (x3 + 5).toNatClampNeg = a5) {W : AW} {R : AR} {fd : Int32} {fs : Nat → Int32} {tr : Int32} {ask : Int64} {S : SV} {x : CX} {y : CY} (I : IX W R fd fs tr ask S x) (J : IY W R fd fs tr ask S y) (K : LK E T k n b oX oY x3) : V E k n 975 [(0, .ref b), (1, .ref oX), (2, .ref oY), (3, .int x3)] [] (clX T oX x ++ clY T oY y) := by
  obtain ⟨C, G, rfl, rfl, rfl, rfl, S0⟩ := I
  obtain ⟨M, N, f1, f2, f3, f4, S1⟩ := J
  have hW : AWok W := M.1
  refine v_aload_n X 1 dL_law_975 rfl rfl ?_
  refine lx_tries X hkn (Nat.le_of_ble_eq_true rfl) hW C G S0 (fun r x' e I' => ?_)
  refine v_aload_n X 2 dL_law_979 rfl rfl ?_
  refine v_perm List.perm_append_comm ?_
  refine ly_tries X hkn (Nat.le_of_ble_eq_true rfl) M N S1 (fun r' y' e' J' => ?_)
  refine v_perm List.perm_append_comm ?_
  exact v_icmp_eq X (tgt := 1468) dL_law_983 (by decide) (fun _ => K _ _ _ _ _ _ _ _ _ I' (IY_cast J' f1 f2 f3 f4)) (fun c => absurd (e.trans (f3.symm.trans e'.symm)) c)
set_option maxHeartbeats 4000000 in
set_option maxRecDepth 100000 in
theorem lc_meets {E : vE} {T : Nat → ClassId} {k n : Nat} (X : vX E cL_law 4 RL wsL_law (vT T) room_1) {b L : Nat} {xs : Nat → Int32} (XS : vS E b L xs) (hkn : k ≤ room_1.cells ∧ n ≤ room_1.slots) {oX oY : Nat} {x3 a1 a2 a3 a4 a5 : Int32} (h1 : vp_in (x3 + 1) L) (h2 : vp_in (x3 + 2) L) (h3 : vp_in (x3 + 3) L) (h4 : vp_in (x3 + 4) L) (h5 : vp_in (x3 + 5) L) (g1 : xs (x3 + 1).toNatClampNeg = a1) (g2 : xs (x3 + 2).toNatClampNeg = a2) (g3 : xs (x3 + 3).toNatClampNeg = a3) (g4 : xs (x3 + 4).toNatClampNeg = a4) (g5 : xs (x3 + 5).toNatClampNeg = a5) {W : AW} {R : AR} {fd : Int32} {fs : Nat → Int32} {tr : Int32} {ask : Int64} {S : SV} {x : CX} {y : CY} (I : IX W R fd fs tr ask S x) (J : IY W R fd fs tr ask S y) (K : LK E T k n b oX oY x3) : V E k n 988 [(0, .ref b), (1, .ref oX), (2, .ref oY), (3, .int x3)] [] (clX T oX x ++ clY T oY y) := by
  obtain ⟨C, G, rfl, rfl, rfl, rfl, S0⟩ := I
  obtain ⟨M, N, f1, f2, f3, f4, S1⟩ := J
  have hW : AWok W := M.1
  refine v_aload_n X 1 dL_law_988 rfl rfl ?_
  refine v_aload_n X 0 dL_law_989 rfl rfl ?_
  refine v_iload_n X 3 dL_law_990 rfl rfl ?_
  refine v_iconst X dL_law_991 (v := (1 : Int32)) (by decide) ?_
  refine v_iadd X dL_law_992 ?_
  refine v_sldK X XS h1 g1 dL_law_993 ?_
  refine v_aload_n X 0 dL_law_994 rfl rfl ?_
  refine v_iload_n X 3 dL_law_995 rfl rfl ?_
  refine v_iconst X dL_law_996 (v := (2 : Int32)) (by decide) ?_
  refine v_iadd X dL_law_997 ?_
  refine v_sldK X XS h2 g2 dL_law_998 ?_
  refine v_i2l X dL_law_999 ?_
  refine v_bipush X dL_law_1000 (v := (32 : Int32)) (by decide) ?_
  refine v_lshl X dL_law_1002 ?_
  refine v_aload_n X 0 dL_law_1003 rfl rfl ?_
  refine v_iload_n X 3 dL_law_1004 rfl rfl ?_
  refine v_iconst X dL_law_1005 (v := (3 : Int32)) (by decide) ?_
  refine v_iadd X dL_law_1006 ?_
  refine v_sldK X XS h3 g3 dL_law_1007 ?_
  refine v_i2l X dL_law_1008 ?_
  refine v_ldc2 X (v := (4294967295 : Int64)) (List.mem_of_getElem? (i := 6) rfl) dL_law_1009 ?_
  refine v_land X dL_law_1012 ?_
  refine v_lor X dL_law_1013 ?_
  refine v_aload_n X 0 dL_law_1014 rfl rfl ?_
  refine v_iload_n X 3 dL_law_1015 rfl rfl ?_
  refine v_iconst X dL_law_1016 (v := (4 : Int32)) (by decide) ?_
  refine v_iadd X dL_law_1017 ?_
  refine v_sldK X XS h4 g4 dL_law_1018 ?_
  refine v_if_eq X (tgt := 1026) dL_law_1019 (by decide) (fun c1 => ?_) (fun c1 => ?_)
  · skip
    refine v_iconst X dL_law_1026 (v := (0 : Int32)) (by decide) ?_
    obtain ⟨o, ho⟩ : ∃ o, ∀ P : oF → Prop, P o → sp_meets W a1 ((vshl a2.toInt64 32) ||| (a3.toInt64 &&& (4294967295 : Int64))) (0 : Int32) (cX_fd x) (cX_fs x) (pF P) := t_meets
    refine lx_meets X hkn (Nat.le_of_ble_eq_true rfl) hW C G S0 ho (fun r x' e I' => ?_)
    refine v_aload_n X 2 dL_law_1030 rfl rfl ?_
    refine v_aload_n X 0 dL_law_1031 rfl rfl ?_
    refine v_iload_n X 3 dL_law_1032 rfl rfl ?_
    refine v_iconst X dL_law_1033 (v := (1 : Int32)) (by decide) ?_
    refine v_iadd X dL_law_1034 ?_
    refine v_sldK X XS h1 g1 dL_law_1035 ?_
    refine v_aload_n X 0 dL_law_1036 rfl rfl ?_
    refine v_iload_n X 3 dL_law_1037 rfl rfl ?_
    refine v_iconst X dL_law_1038 (v := (2 : Int32)) (by decide) ?_
    refine v_iadd X dL_law_1039 ?_
    refine v_sldK X XS h2 g2 dL_law_1040 ?_
    refine v_i2l X dL_law_1041 ?_
    refine v_bipush X dL_law_1042 (v := (32 : Int32)) (by decide) ?_
    refine v_lshl X dL_law_1044 ?_
    refine v_aload_n X 0 dL_law_1045 rfl rfl ?_
    refine v_iload_n X 3 dL_law_1046 rfl rfl ?_
    refine v_iconst X dL_law_1047 (v := (3 : Int32)) (by decide) ?_
    refine v_iadd X dL_law_1048 ?_
    refine v_sldK X XS h3 g3 dL_law_1049 ?_
    refine v_i2l X dL_law_1050 ?_
    refine v_ldc2 X (v := (4294967295 : Int64)) (List.mem_of_getElem? (i := 6) rfl) dL_law_1051 ?_
    refine v_land X dL_law_1054 ?_
    refine v_lor X dL_law_1055 ?_
    refine v_aload_n X 0 dL_law_1056 rfl rfl ?_
    refine v_iload_n X 3 dL_law_1057 rfl rfl ?_
    refine v_iconst X dL_law_1058 (v := (4 : Int32)) (by decide) ?_
    refine v_iadd X dL_law_1059 ?_
    refine v_sldK X XS h4 g4 dL_law_1060 ?_
    refine v_if_eq X (tgt := 1068) dL_law_1061 (by decide) (fun _ => ?_) (fun c2 => absurd c1 c2)
    refine v_iconst X dL_law_1068 (v := (0 : Int32)) (by decide) ?_
    refine v_perm List.perm_append_comm ?_
    refine ly_meets_ X hkn (Nat.le_of_ble_eq_true rfl) M N S1 (o := o) (by rw [f1, f2]; exact ho) (fun r' y' e' J' => ?_)
    refine v_perm List.perm_append_comm ?_
    exact v_icmp_eq X (tgt := 1468) dL_law_1072 (by decide) (fun _ => K _ _ _ _ _ _ _ _ _ I' (IY_cast J' rfl rfl f3 f4)) (fun c => absurd (e.trans e'.symm) c)
  · skip
    refine v_iconst X dL_law_1022 (v := (1 : Int32)) (by decide) ?_
    refine v_goto X (tgt := 1027) dL_law_1023 (by decide) ?_
    obtain ⟨o, ho⟩ : ∃ o, ∀ P : oF → Prop, P o → sp_meets W a1 ((vshl a2.toInt64 32) ||| (a3.toInt64 &&& (4294967295 : Int64))) (1 : Int32) (cX_fd x) (cX_fs x) (pF P) := t_meets
    refine lx_meets X hkn (Nat.le_of_ble_eq_true rfl) hW C G S0 ho (fun r x' e I' => ?_)
    refine v_aload_n X 2 dL_law_1030 rfl rfl ?_
    refine v_aload_n X 0 dL_law_1031 rfl rfl ?_
    refine v_iload_n X 3 dL_law_1032 rfl rfl ?_
    refine v_iconst X dL_law_1033 (v := (1 : Int32)) (by decide) ?_
    refine v_iadd X dL_law_1034 ?_
    refine v_sldK X XS h1 g1 dL_law_1035 ?_
    refine v_aload_n X 0 dL_law_1036 rfl rfl ?_
    refine v_iload_n X 3 dL_law_1037 rfl rfl ?_
    refine v_iconst X dL_law_1038 (v := (2 : Int32)) (by decide) ?_
    refine v_iadd X dL_law_1039 ?_
    refine v_sldK X XS h2 g2 dL_law_1040 ?_
    refine v_i2l X dL_law_1041 ?_
    refine v_bipush X dL_law_1042 (v := (32 : Int32)) (by decide) ?_
    refine v_lshl X dL_law_1044 ?_
    refine v_aload_n X 0 dL_law_1045 rfl rfl ?_
    refine v_iload_n X 3 dL_law_1046 rfl rfl ?_
    refine v_iconst X dL_law_1047 (v := (3 : Int32)) (by decide) ?_
    refine v_iadd X dL_law_1048 ?_
    refine v_sldK X XS h3 g3 dL_law_1049 ?_
    refine v_i2l X dL_law_1050 ?_
    refine v_ldc2 X (v := (4294967295 : Int64)) (List.mem_of_getElem? (i := 6) rfl) dL_law_1051 ?_
    refine v_land X dL_law_1054 ?_
    refine v_lor X dL_law_1055 ?_
    refine v_aload_n X 0 dL_law_1056 rfl rfl ?_
    refine v_iload_n X 3 dL_law_1057 rfl rfl ?_
    refine v_iconst X dL_law_1058 (v := (4 : Int32)) (by decide) ?_
    refine v_iadd X dL_law_1059 ?_
    refine v_sldK X XS h4 g4 dL_law_1060 ?_
    refine v_if_eq X (tgt := 1068) dL_law_1061 (by decide) (fun c2 => absurd c2 c1) (fun _ => ?_)
    refine v_iconst X dL_law_1064 (v := (1 : Int32)) (by decide) ?_
    refine v_goto X (tgt := 1069) dL_law_1065 (by decide) ?_
    refine v_perm List.perm_append_comm ?_
    refine ly_meets_ X hkn (Nat.le_of_ble_eq_true rfl) M N S1 (o := o) (by rw [f1, f2]; exact ho) (fun r' y' e' J' => ?_)
    refine v_perm List.perm_append_comm ?_
    exact v_icmp_eq X (tgt := 1468) dL_law_1072 (by decide) (fun _ => K _ _ _ _ _ _ _ _ _ I' (IY_cast J' rfl rfl f3 f4)) (fun c => absurd (e.trans e'.symm) c)
set_option maxHeartbeats 4000000 in
set_option maxRecDepth 100000 in
theorem lc_rank {E : vE} {T : Nat → ClassId} {k n : Nat} (X : vX E cL_law 4 RL wsL_law (vT T) room_1) {b L : Nat} {xs : Nat → Int32} (XS : vS E b L xs) (hkn : k ≤ room_1.cells ∧ n ≤ room_1.slots) {oX oY : Nat} {x3 a1 a2 a3 a4 a5 : Int32} (h1 : vp_in (x3 + 1) L) (h2 : vp_in (x3 + 2) L) (h3 : vp_in (x3 + 3) L) (h4 : vp_in (x3 + 4) L) (h5 : vp_in (x3 + 5) L) (g1 : xs (x3 + 1).toNatClampNeg = a1) (g2 : xs (x3 + 2).toNatClampNeg = a2) (g3 : xs (x3 + 3).toNatClampNeg = a3) (g4 : xs (x3 + 4).toNatClampNeg = a4) (g5 : xs (x3 + 5).toNatClampNeg = a5) {W : AW} {R : AR} {fd : Int32} {fs : Nat → Int32} {tr : Int32} {ask : Int64} {S : SV} {x : CX} {y : CY} (I : IX W R fd fs tr ask S x) (J : IY W R fd fs tr ask S y) (K : LK E T k n b oX oY x3) : V E k n 1077 [(0, .ref b), (1, .ref oX), (2, .ref oY), (3, .int x3)] [] (clX T oX x ++ clY T oY y) := by
  obtain ⟨C, G, rfl, rfl, rfl, rfl, S0⟩ := I
  obtain ⟨M, N, f1, f2, f3, f4, S1⟩ := J
  have hW : AWok W := M.1
  refine v_aload_n X 1 dL_law_1077 rfl rfl ?_
  refine v_aload_n X 0 dL_law_1078 rfl rfl ?_
  refine v_iload_n X 3 dL_law_1079 rfl rfl ?_
  refine v_iconst X dL_law_1080 (v := (1 : Int32)) (by decide) ?_
  refine v_iadd X dL_law_1081 ?_
  refine v_sldK X XS h1 g1 dL_law_1082 ?_
  refine v_aload_n X 0 dL_law_1083 rfl rfl ?_
  refine v_iload_n X 3 dL_law_1084 rfl rfl ?_
  refine v_iconst X dL_law_1085 (v := (2 : Int32)) (by decide) ?_
  refine v_iadd X dL_law_1086 ?_
  refine v_sldK X XS h2 g2 dL_law_1087 ?_
  obtain ⟨o, ho⟩ : ∃ o, ∀ P : oF → Prop, P o → sp_rank W a1 a2 (cX_fd x) (cX_fs x) (pF P) := t_rank
  refine lx_rank X hkn (Nat.le_of_ble_eq_true rfl) hW C G S0 ho (fun r x' e I' => ?_)
  refine v_aload_n X 2 dL_law_1091 rfl rfl ?_
  refine v_aload_n X 0 dL_law_1092 rfl rfl ?_
  refine v_iload_n X 3 dL_law_1093 rfl rfl ?_
  refine v_iconst X dL_law_1094 (v := (1 : Int32)) (by decide) ?_
  refine v_iadd X dL_law_1095 ?_
  refine v_sldK X XS h1 g1 dL_law_1096 ?_
  refine v_aload_n X 0 dL_law_1097 rfl rfl ?_
  refine v_iload_n X 3 dL_law_1098 rfl rfl ?_
  refine v_iconst X dL_law_1099 (v := (2 : Int32)) (by decide) ?_
  refine v_iadd X dL_law_1100 ?_
  refine v_sldK X XS h2 g2 dL_law_1101 ?_
  refine v_perm List.perm_append_comm ?_
  refine ly_rank X hkn (Nat.le_of_ble_eq_true rfl) M N S1 (o := o) (by rw [f1, f2]; exact ho) (fun r' y' e' J' => ?_)
  refine v_perm List.perm_append_comm ?_
  exact v_icmp_eq X (tgt := 1468) dL_law_1105 (by decide) (fun _ => K _ _ _ _ _ _ _ _ _ I' (IY_cast J' rfl rfl f3 f4)) (fun c => absurd (e.trans e'.symm) c)
set_option maxHeartbeats 4000000 in
set_option maxRecDepth 100000 in
theorem lc_alike {E : vE} {T : Nat → ClassId} {k n : Nat} (X : vX E cL_law 4 RL wsL_law (vT T) room_1) {b L : Nat} {xs : Nat → Int32} (XS : vS E b L xs) (hkn : k ≤ room_1.cells ∧ n ≤ room_1.slots) {oX oY : Nat} {x3 a1 a2 a3 a4 a5 : Int32} (h1 : vp_in (x3 + 1) L) (h2 : vp_in (x3 + 2) L) (h3 : vp_in (x3 + 3) L) (h4 : vp_in (x3 + 4) L) (h5 : vp_in (x3 + 5) L) (g1 : xs (x3 + 1).toNatClampNeg = a1) (g2 : xs (x3 + 2).toNatClampNeg = a2) (g3 : xs (x3 + 3).toNatClampNeg = a3) (g4 : xs (x3 + 4).toNatClampNeg = a4) (g5 : xs (x3 + 5).toNatClampNeg = a5) {W : AW} {R : AR} {fd : Int32} {fs : Nat → Int32} {tr : Int32} {ask : Int64} {S : SV} {x : CX} {y : CY} (I : IX W R fd fs tr ask S x) (J : IY W R fd fs tr ask S y) (K : LK E T k n b oX oY x3) : V E k n 1110 [(0, .ref b), (1, .ref oX), (2, .ref oY), (3, .int x3)] [] (clX T oX x ++ clY T oY y) := by
  obtain ⟨C, G, rfl, rfl, rfl, rfl, S0⟩ := I
  obtain ⟨M, N, f1, f2, f3, f4, S1⟩ := J
  have hW : AWok W := M.1
  refine v_aload_n X 1 dL_law_1110 rfl rfl ?_
  refine v_aload_n X 0 dL_law_1111 rfl rfl ?_
  refine v_iload_n X 3 dL_law_1112 rfl rfl ?_
  refine v_iconst X dL_law_1113 (v := (1 : Int32)) (by decide) ?_
  refine v_iadd X dL_law_1114 ?_
  refine v_sldK X XS h1 g1 dL_law_1115 ?_
  refine v_aload_n X 0 dL_law_1116 rfl rfl ?_
  refine v_iload_n X 3 dL_law_1117 rfl rfl ?_
  refine v_iconst X dL_law_1118 (v := (2 : Int32)) (by decide) ?_
  refine v_iadd X dL_law_1119 ?_
  refine v_sldK X XS h2 g2 dL_law_1120 ?_
  refine v_aload_n X 0 dL_law_1121 rfl rfl ?_
  refine v_iload_n X 3 dL_law_1122 rfl rfl ?_
  refine v_iconst X dL_law_1123 (v := (3 : Int32)) (by decide) ?_
  refine v_iadd X dL_law_1124 ?_
  refine v_sldK X XS h3 g3 dL_law_1125 ?_
  obtain ⟨o, ho⟩ : ∃ o, ∀ P : oK → Prop, P o → sp_alike (cX_im x, cX_mU x, cX_mC x) W S a1 a2 a3 (cX_fd x) (cX_tr x) (cX_fs x) (pK P) := t_alike
  refine lx_alikeB X hkn (Nat.le_of_ble_eq_true rfl) hW C G S0 ho (fun r x' e I' => ?_)
  refine v_aload_n X 2 dL_law_1129 rfl rfl ?_
  refine v_aload_n X 0 dL_law_1130 rfl rfl ?_
  refine v_iload_n X 3 dL_law_1131 rfl rfl ?_
  refine v_iconst X dL_law_1132 (v := (1 : Int32)) (by decide) ?_
  refine v_iadd X dL_law_1133 ?_
  refine v_sldK X XS h1 g1 dL_law_1134 ?_
  refine v_aload_n X 0 dL_law_1135 rfl rfl ?_
  refine v_iload_n X 3 dL_law_1136 rfl rfl ?_
  refine v_iconst X dL_law_1137 (v := (2 : Int32)) (by decide) ?_
  refine v_iadd X dL_law_1138 ?_
  refine v_sldK X XS h2 g2 dL_law_1139 ?_
  refine v_aload_n X 0 dL_law_1140 rfl rfl ?_
  refine v_iload_n X 3 dL_law_1141 rfl rfl ?_
  refine v_iconst X dL_law_1142 (v := (3 : Int32)) (by decide) ?_
  refine v_iadd X dL_law_1143 ?_
  refine v_sldK X XS h3 g3 dL_law_1144 ?_
  refine v_perm List.perm_append_comm ?_
  refine ly_alike X hkn (Nat.le_of_ble_eq_true rfl) M N S1 (o := o) (by rw [f1, f2, f3]; exact ho) (fun r' y' e' J' => ?_)
  refine v_perm List.perm_append_comm ?_
  exact v_icmp_eq X (tgt := 1468) dL_law_1148 (by decide) (fun _ => K _ _ _ _ _ _ _ _ _ I' (IY_cast J' rfl rfl rfl f4)) (fun c => absurd (e.trans e'.symm) c)
set_option maxHeartbeats 4000000 in
set_option maxRecDepth 100000 in
theorem lc_sent {E : vE} {T : Nat → ClassId} {k n : Nat} (X : vX E cL_law 4 RL wsL_law (vT T) room_1) {b L : Nat} {xs : Nat → Int32} (XS : vS E b L xs) (hkn : k ≤ room_1.cells ∧ n ≤ room_1.slots) {oX oY : Nat} {x3 a1 a2 a3 a4 a5 : Int32} (h1 : vp_in (x3 + 1) L) (h2 : vp_in (x3 + 2) L) (h3 : vp_in (x3 + 3) L) (h4 : vp_in (x3 + 4) L) (h5 : vp_in (x3 + 5) L) (g1 : xs (x3 + 1).toNatClampNeg = a1) (g2 : xs (x3 + 2).toNatClampNeg = a2) (g3 : xs (x3 + 3).toNatClampNeg = a3) (g4 : xs (x3 + 4).toNatClampNeg = a4) (g5 : xs (x3 + 5).toNatClampNeg = a5) {W : AW} {R : AR} {fd : Int32} {fs : Nat → Int32} {tr : Int32} {ask : Int64} {S : SV} {x : CX} {y : CY} (I : IX W R fd fs tr ask S x) (J : IY W R fd fs tr ask S y) (K : LK E T k n b oX oY x3) : V E k n 1153 [(0, .ref b), (1, .ref oX), (2, .ref oY), (3, .int x3)] [] (clX T oX x ++ clY T oY y) := by
  obtain ⟨C, G, rfl, rfl, rfl, rfl, S0⟩ := I
  obtain ⟨M, N, f1, f2, f3, f4, S1⟩ := J
  have hW : AWok W := M.1
  refine v_aload_n X 1 dL_law_1153 rfl rfl ?_
  refine v_aload_n X 0 dL_law_1154 rfl rfl ?_
  refine v_iload_n X 3 dL_law_1155 rfl rfl ?_
  refine v_iconst X dL_law_1156 (v := (1 : Int32)) (by decide) ?_
  refine v_iadd X dL_law_1157 ?_
  refine v_sldK X XS h1 g1 dL_law_1158 ?_
  obtain ⟨o, ho⟩ : ∃ o, ∀ P : Int32 → Prop, P o → sp_sent a1 S.1 S.2 P := t_sent S0.1
  refine lx_sent X hkn (Nat.le_of_ble_eq_true rfl) hW C G S0 ho (fun r x' e I' => ?_)
  refine v_aload_n X 2 dL_law_1162 rfl rfl ?_
  refine v_aload_n X 0 dL_law_1163 rfl rfl ?_
  refine v_iload_n X 3 dL_law_1164 rfl rfl ?_
  refine v_iconst X dL_law_1165 (v := (1 : Int32)) (by decide) ?_
  refine v_iadd X dL_law_1166 ?_
  refine v_sldK X XS h1 g1 dL_law_1167 ?_
  refine v_perm List.perm_append_comm ?_
  refine ly_sent X hkn (Nat.le_of_ble_eq_true rfl) M N S1 (o := o) ho (fun r' y' e' J' => ?_)
  refine v_perm List.perm_append_comm ?_
  exact v_icmp_eq X (tgt := 1468) dL_law_1171 (by decide) (fun _ => K _ _ _ _ _ _ _ _ _ I' (IY_cast J' f1 f2 f3 f4)) (fun c => absurd (e.trans e'.symm) c)
set_option maxHeartbeats 4000000 in
set_option maxRecDepth 100000 in
theorem lc_far {E : vE} {T : Nat → ClassId} {k n : Nat} (X : vX E cL_law 4 RL wsL_law (vT T) room_1) {b L : Nat} {xs : Nat → Int32} (XS : vS E b L xs) (hkn : k ≤ room_1.cells ∧ n ≤ room_1.slots) {oX oY : Nat} {x3 a1 a2 a3 a4 a5 : Int32} (h1 : vp_in (x3 + 1) L) (h2 : vp_in (x3 + 2) L) (h3 : vp_in (x3 + 3) L) (h4 : vp_in (x3 + 4) L) (h5 : vp_in (x3 + 5) L) (g1 : xs (x3 + 1).toNatClampNeg = a1) (g2 : xs (x3 + 2).toNatClampNeg = a2) (g3 : xs (x3 + 3).toNatClampNeg = a3) (g4 : xs (x3 + 4).toNatClampNeg = a4) (g5 : xs (x3 + 5).toNatClampNeg = a5) {W : AW} {R : AR} {fd : Int32} {fs : Nat → Int32} {tr : Int32} {ask : Int64} {S : SV} {x : CX} {y : CY} (I : IX W R fd fs tr ask S x) (J : IY W R fd fs tr ask S y) (K : LK E T k n b oX oY x3) : V E k n 1176 [(0, .ref b), (1, .ref oX), (2, .ref oY), (3, .int x3)] [] (clX T oX x ++ clY T oY y) := by
  obtain ⟨C, G, rfl, rfl, rfl, rfl, S0⟩ := I
  obtain ⟨M, N, f1, f2, f3, f4, S1⟩ := J
  have hW : AWok W := M.1
  refine v_aload_n X 1 dL_law_1176 rfl rfl ?_
  refine v_aload_n X 0 dL_law_1177 rfl rfl ?_
  refine v_iload_n X 3 dL_law_1178 rfl rfl ?_
  refine v_iconst X dL_law_1179 (v := (1 : Int32)) (by decide) ?_
  refine v_iadd X dL_law_1180 ?_
  refine v_sldK X XS h1 g1 dL_law_1181 ?_
  refine v_aload_n X 0 dL_law_1182 rfl rfl ?_
  refine v_iload_n X 3 dL_law_1183 rfl rfl ?_
  refine v_iconst X dL_law_1184 (v := (2 : Int32)) (by decide) ?_
  refine v_iadd X dL_law_1185 ?_
  refine v_sldK X XS h2 g2 dL_law_1186 ?_
  refine v_aload_n X 0 dL_law_1187 rfl rfl ?_
  refine v_iload_n X 3 dL_law_1188 rfl rfl ?_
  refine v_iconst X dL_law_1189 (v := (3 : Int32)) (by decide) ?_
  refine v_iadd X dL_law_1190 ?_
  refine v_sldK X XS h3 g3 dL_law_1191 ?_
  obtain ⟨o, ho⟩ : ∃ o, ∀ P : oF → Prop, P o → sp_far W a1 a2 a3 (cX_fd x) (cX_fs x) (pF P) := t_far hW
  refine lx_far X hkn (Nat.le_of_ble_eq_true rfl) hW C G S0 ho (fun r x' e I' => ?_)
  refine v_aload_n X 2 dL_law_1195 rfl rfl ?_
  refine v_aload_n X 0 dL_law_1196 rfl rfl ?_
  refine v_iload_n X 3 dL_law_1197 rfl rfl ?_
  refine v_iconst X dL_law_1198 (v := (1 : Int32)) (by decide) ?_
  refine v_iadd X dL_law_1199 ?_
  refine v_sldK X XS h1 g1 dL_law_1200 ?_
  refine v_aload_n X 0 dL_law_1201 rfl rfl ?_
  refine v_iload_n X 3 dL_law_1202 rfl rfl ?_
  refine v_iconst X dL_law_1203 (v := (2 : Int32)) (by decide) ?_
  refine v_iadd X dL_law_1204 ?_
  refine v_sldK X XS h2 g2 dL_law_1205 ?_
  refine v_aload_n X 0 dL_law_1206 rfl rfl ?_
  refine v_iload_n X 3 dL_law_1207 rfl rfl ?_
  refine v_iconst X dL_law_1208 (v := (3 : Int32)) (by decide) ?_
  refine v_iadd X dL_law_1209 ?_
  refine v_sldK X XS h3 g3 dL_law_1210 ?_
  refine v_perm List.perm_append_comm ?_
  refine ly_far X hkn (Nat.le_of_ble_eq_true rfl) M N S1 (o := o) (by rw [f1, f2]; exact ho) (fun r' y' e' J' => ?_)
  refine v_perm List.perm_append_comm ?_
  exact v_icmp_eq X (tgt := 1468) dL_law_1214 (by decide) (fun _ => K _ _ _ _ _ _ _ _ _ I' (IY_cast J' rfl rfl f3 f4)) (fun c => absurd (e.trans e'.symm) c)
set_option maxHeartbeats 4000000 in
set_option maxRecDepth 100000 in
theorem lc_row {E : vE} {T : Nat → ClassId} {k n : Nat} (X : vX E cL_law 4 RL wsL_law (vT T) room_1) {b L : Nat} {xs : Nat → Int32} (XS : vS E b L xs) (hkn : k ≤ room_1.cells ∧ n ≤ room_1.slots) {oX oY : Nat} {x3 a1 a2 a3 a4 a5 : Int32} (h1 : vp_in (x3 + 1) L) (h2 : vp_in (x3 + 2) L) (h3 : vp_in (x3 + 3) L) (h4 : vp_in (x3 + 4) L) (h5 : vp_in (x3 + 5) L) (g1 : xs (x3 + 1).toNatClampNeg = a1) (g2 : xs (x3 + 2).toNatClampNeg = a2) (g3 : xs (x3 + 3).toNatClampNeg = a3) (g4 : xs (x3 + 4).toNatClampNeg = a4) (g5 : xs (x3 + 5).toNatClampNeg = a5) {W : AW} {R : AR} {fd : Int32} {fs : Nat → Int32} {tr : Int32} {ask : Int64} {S : SV} {x : CX} {y : CY} (I : IX W R fd fs tr ask S x) (J : IY W R fd fs tr ask S y) (K : LK E T k n b oX oY x3) : V E k n 1219 [(0, .ref b), (1, .ref oX), (2, .ref oY), (3, .int x3)] [] (clX T oX x ++ clY T oY y) := by
  obtain ⟨C, G, rfl, rfl, rfl, rfl, S0⟩ := I
  obtain ⟨M, N, f1, f2, f3, f4, S1⟩ := J
  have hW : AWok W := M.1
  refine v_aload_n X 1 dL_law_1219 rfl rfl ?_
  refine v_aload_n X 0 dL_law_1220 rfl rfl ?_
  refine v_iload_n X 3 dL_law_1221 rfl rfl ?_
  refine v_iconst X dL_law_1222 (v := (1 : Int32)) (by decide) ?_
  refine v_iadd X dL_law_1223 ?_
  refine v_sldK X XS h1 g1 dL_law_1224 ?_
  refine v_aload_n X 0 dL_law_1225 rfl rfl ?_
  refine v_iload_n X 3 dL_law_1226 rfl rfl ?_
  refine v_iconst X dL_law_1227 (v := (2 : Int32)) (by decide) ?_
  refine v_iadd X dL_law_1228 ?_
  refine v_sldK X XS h2 g2 dL_law_1229 ?_
  obtain ⟨o, ho⟩ : ∃ o, ∀ P : oR → Prop, P o → sp_row R a1 a2 (cX_fd x) (cX_fs x) (pR P) := t_row
  refine lx_row X hkn (Nat.le_of_ble_eq_true rfl) hW C G S0 ho (fun r x' e I' => ?_)
  refine v_aload_n X 2 dL_law_1233 rfl rfl ?_
  refine v_aload_n X 0 dL_law_1234 rfl rfl ?_
  refine v_iload_n X 3 dL_law_1235 rfl rfl ?_
  refine v_iconst X dL_law_1236 (v := (1 : Int32)) (by decide) ?_
  refine v_iadd X dL_law_1237 ?_
  refine v_sldK X XS h1 g1 dL_law_1238 ?_
  refine v_aload_n X 0 dL_law_1239 rfl rfl ?_
  refine v_iload_n X 3 dL_law_1240 rfl rfl ?_
  refine v_iconst X dL_law_1241 (v := (2 : Int32)) (by decide) ?_
  refine v_iadd X dL_law_1242 ?_
  refine v_sldK X XS h2 g2 dL_law_1243 ?_
  refine v_perm List.perm_append_comm ?_
  refine ly_row X hkn (Nat.le_of_ble_eq_true rfl) M N S1 (o := o) (by rw [f1, f2]; exact ho) (fun r' y' e' J' => ?_)
  refine v_perm List.perm_append_comm ?_
  exact v_icmp_eq X (tgt := 1468) dL_law_1247 (by decide) (fun _ => K _ _ _ _ _ _ _ _ _ I' (IY_cast J' rfl rfl f3 f4)) (fun c => absurd (e.trans e'.symm) c)
set_option maxHeartbeats 4000000 in
set_option maxRecDepth 100000 in
theorem lc_lay {E : vE} {T : Nat → ClassId} {k n : Nat} (X : vX E cL_law 4 RL wsL_law (vT T) room_1) {b L : Nat} {xs : Nat → Int32} (XS : vS E b L xs) (hkn : k ≤ room_1.cells ∧ n ≤ room_1.slots) {oX oY : Nat} {x3 a1 a2 a3 a4 a5 : Int32} (h1 : vp_in (x3 + 1) L) (h2 : vp_in (x3 + 2) L) (h3 : vp_in (x3 + 3) L) (h4 : vp_in (x3 + 4) L) (h5 : vp_in (x3 + 5) L) (g1 : xs (x3 + 1).toNatClampNeg = a1) (g2 : xs (x3 + 2).toNatClampNeg = a2) (g3 : xs (x3 + 3).toNatClampNeg = a3) (g4 : xs (x3 + 4).toNatClampNeg = a4) (g5 : xs (x3 + 5).toNatClampNeg = a5) {W : AW} {R : AR} {fd : Int32} {fs : Nat → Int32} {tr : Int32} {ask : Int64} {S : SV} {x : CX} {y : CY} (I : IX W R fd fs tr ask S x) (J : IY W R fd fs tr ask S y) (K : LK E T k n b oX oY x3) : V E k n 1252 [(0, .ref b), (1, .ref oX), (2, .ref oY), (3, .int x3)] [] (clX T oX x ++ clY T oY y) := by
  obtain ⟨C, G, rfl, rfl, rfl, rfl, S0⟩ := I
  obtain ⟨M, N, f1, f2, f3, f4, S1⟩ := J
  have hW : AWok W := M.1
  refine v_aload_n X 1 dL_law_1252 rfl rfl ?_
  refine v_aload_n X 0 dL_law_1253 rfl rfl ?_
  refine v_iload_n X 3 dL_law_1254 rfl rfl ?_
  refine v_iconst X dL_law_1255 (v := (1 : Int32)) (by decide) ?_
  refine v_iadd X dL_law_1256 ?_
  refine v_sldK X XS h1 g1 dL_law_1257 ?_
  refine v_aload_n X 0 dL_law_1258 rfl rfl ?_
  refine v_iload_n X 3 dL_law_1259 rfl rfl ?_
  refine v_iconst X dL_law_1260 (v := (2 : Int32)) (by decide) ?_
  refine v_iadd X dL_law_1261 ?_
  refine v_sldK X XS h2 g2 dL_law_1262 ?_
  refine v_aload_n X 0 dL_law_1263 rfl rfl ?_
  refine v_iload_n X 3 dL_law_1264 rfl rfl ?_
  refine v_iconst X dL_law_1265 (v := (3 : Int32)) (by decide) ?_
  refine v_iadd X dL_law_1266 ?_
  refine v_sldK X XS h3 g3 dL_law_1267 ?_
  obtain ⟨o, ho⟩ : ∃ o, ∀ P : oR → Prop, P o → sp_lay R a1 a2 a3 (cX_fd x) (cX_fs x) (pR P) := t_lay_ N.1
  refine lx_lay X hkn (Nat.le_of_ble_eq_true rfl) hW C G S0 ho (fun r x' e I' => ?_)
  refine v_aload_n X 2 dL_law_1271 rfl rfl ?_
  refine v_aload_n X 0 dL_law_1272 rfl rfl ?_
  refine v_iload_n X 3 dL_law_1273 rfl rfl ?_
  refine v_iconst X dL_law_1274 (v := (1 : Int32)) (by decide) ?_
  refine v_iadd X dL_law_1275 ?_
  refine v_sldK X XS h1 g1 dL_law_1276 ?_
  refine v_aload_n X 0 dL_law_1277 rfl rfl ?_
  refine v_iload_n X 3 dL_law_1278 rfl rfl ?_
  refine v_iconst X dL_law_1279 (v := (2 : Int32)) (by decide) ?_
  refine v_iadd X dL_law_1280 ?_
  refine v_sldK X XS h2 g2 dL_law_1281 ?_
  refine v_aload_n X 0 dL_law_1282 rfl rfl ?_
  refine v_iload_n X 3 dL_law_1283 rfl rfl ?_
  refine v_iconst X dL_law_1284 (v := (3 : Int32)) (by decide) ?_
  refine v_iadd X dL_law_1285 ?_
  refine v_sldK X XS h3 g3 dL_law_1286 ?_
  refine v_perm List.perm_append_comm ?_
  refine ly_lay X hkn (Nat.le_of_ble_eq_true rfl) M N S1 (o := o) (by rw [f1, f2]; exact ho) (fun r' y' e' J' => ?_)
  refine v_perm List.perm_append_comm ?_
  exact v_icmp_eq X (tgt := 1468) dL_law_1290 (by decide) (fun _ => K _ _ _ _ _ _ _ _ _ I' (IY_cast J' rfl rfl f3 f4)) (fun c => absurd (e.trans e'.symm) c)
set_option maxHeartbeats 4000000 in
set_option maxRecDepth 100000 in
theorem lc_tear {E : vE} {T : Nat → ClassId} {k n : Nat} (X : vX E cL_law 4 RL wsL_law (vT T) room_1) {b L : Nat} {xs : Nat → Int32} (XS : vS E b L xs) (hkn : k ≤ room_1.cells ∧ n ≤ room_1.slots) {oX oY : Nat} {x3 a1 a2 a3 a4 a5 : Int32} (h1 : vp_in (x3 + 1) L) (h2 : vp_in (x3 + 2) L) (h3 : vp_in (x3 + 3) L) (h4 : vp_in (x3 + 4) L) (h5 : vp_in (x3 + 5) L) (g1 : xs (x3 + 1).toNatClampNeg = a1) (g2 : xs (x3 + 2).toNatClampNeg = a2) (g3 : xs (x3 + 3).toNatClampNeg = a3) (g4 : xs (x3 + 4).toNatClampNeg = a4) (g5 : xs (x3 + 5).toNatClampNeg = a5) {W : AW} {R : AR} {fd : Int32} {fs : Nat → Int32} {tr : Int32} {ask : Int64} {S : SV} {x : CX} {y : CY} (I : IX W R fd fs tr ask S x) (J : IY W R fd fs tr ask S y) (K : LK E T k n b oX oY x3) : V E k n 1295 [(0, .ref b), (1, .ref oX), (2, .ref oY), (3, .int x3)] [] (clX T oX x ++ clY T oY y) := by
  obtain ⟨C, G, rfl, rfl, rfl, rfl, S0⟩ := I
  obtain ⟨M, N, f1, f2, f3, f4, S1⟩ := J
  have hW : AWok W := M.1
  refine v_aload_n X 1 dL_law_1295 rfl rfl ?_
  refine v_aload_n X 0 dL_law_1296 rfl rfl ?_
  refine v_iload_n X 3 dL_law_1297 rfl rfl ?_
  refine v_iconst X dL_law_1298 (v := (1 : Int32)) (by decide) ?_
  refine v_iadd X dL_law_1299 ?_
  refine v_sldK X XS h1 g1 dL_law_1300 ?_
  obtain ⟨o, ho⟩ : ∃ o, ∀ P : oR → Prop, P o → sp_tear R a1 (cX_fd x) (cX_fs x) (pR P) := t_tear
  refine lx_tear X hkn (Nat.le_of_ble_eq_true rfl) hW C G S0 ho (fun r x' e I' => ?_)
  refine v_aload_n X 2 dL_law_1304 rfl rfl ?_
  refine v_aload_n X 0 dL_law_1305 rfl rfl ?_
  refine v_iload_n X 3 dL_law_1306 rfl rfl ?_
  refine v_iconst X dL_law_1307 (v := (1 : Int32)) (by decide) ?_
  refine v_iadd X dL_law_1308 ?_
  refine v_sldK X XS h1 g1 dL_law_1309 ?_
  refine v_perm List.perm_append_comm ?_
  refine ly_tear X hkn (Nat.le_of_ble_eq_true rfl) M N S1 (o := o) (by rw [f1, f2]; exact ho) (fun r' y' e' J' => ?_)
  refine v_perm List.perm_append_comm ?_
  exact v_icmp_eq X (tgt := 1468) dL_law_1313 (by decide) (fun _ => K _ _ _ _ _ _ _ _ _ I' (IY_cast J' rfl rfl f3 f4)) (fun c => absurd (e.trans e'.symm) c)
set_option maxHeartbeats 4000000 in
set_option maxRecDepth 100000 in
theorem lc_copy {E : vE} {T : Nat → ClassId} {k n : Nat} (X : vX E cL_law 4 RL wsL_law (vT T) room_1) {b L : Nat} {xs : Nat → Int32} (XS : vS E b L xs) (hkn : k ≤ room_1.cells ∧ n ≤ room_1.slots) {oX oY : Nat} {x3 a1 a2 a3 a4 a5 : Int32} (h1 : vp_in (x3 + 1) L) (h2 : vp_in (x3 + 2) L) (h3 : vp_in (x3 + 3) L) (h4 : vp_in (x3 + 4) L) (h5 : vp_in (x3 + 5) L) (g1 : xs (x3 + 1).toNatClampNeg = a1) (g2 : xs (x3 + 2).toNatClampNeg = a2) (g3 : xs (x3 + 3).toNatClampNeg = a3) (g4 : xs (x3 + 4).toNatClampNeg = a4) (g5 : xs (x3 + 5).toNatClampNeg = a5) {W : AW} {R : AR} {fd : Int32} {fs : Nat → Int32} {tr : Int32} {ask : Int64} {S : SV} {x : CX} {y : CY} (I : IX W R fd fs tr ask S x) (J : IY W R fd fs tr ask S y) (K : LK E T k n b oX oY x3) : V E k n 1318 [(0, .ref b), (1, .ref oX), (2, .ref oY), (3, .int x3)] [] (clX T oX x ++ clY T oY y) := by
  obtain ⟨C, G, rfl, rfl, rfl, rfl, S0⟩ := I
  obtain ⟨M, N, f1, f2, f3, f4, S1⟩ := J
  have hW : AWok W := M.1
  refine v_aload_n X 1 dL_law_1318 rfl rfl ?_
  refine v_aload_n X 0 dL_law_1319 rfl rfl ?_
  refine v_iload_n X 3 dL_law_1320 rfl rfl ?_
  refine v_iconst X dL_law_1321 (v := (1 : Int32)) (by decide) ?_
  refine v_iadd X dL_law_1322 ?_
  refine v_sldK X XS h1 g1 dL_law_1323 ?_
  refine v_aload_n X 0 dL_law_1324 rfl rfl ?_
  refine v_iload_n X 3 dL_law_1325 rfl rfl ?_
  refine v_iconst X dL_law_1326 (v := (2 : Int32)) (by decide) ?_
  refine v_iadd X dL_law_1327 ?_
  refine v_sldK X XS h2 g2 dL_law_1328 ?_
  refine v_aload_n X 0 dL_law_1329 rfl rfl ?_
  refine v_iload_n X 3 dL_law_1330 rfl rfl ?_
  refine v_iconst X dL_law_1331 (v := (3 : Int32)) (by decide) ?_
  refine v_iadd X dL_law_1332 ?_
  refine v_sldK X XS h3 g3 dL_law_1333 ?_
  refine v_aload_n X 0 dL_law_1334 rfl rfl ?_
  refine v_iload_n X 3 dL_law_1335 rfl rfl ?_
  refine v_iconst X dL_law_1336 (v := (4 : Int32)) (by decide) ?_
  refine v_iadd X dL_law_1337 ?_
  refine v_sldK X XS h4 g4 dL_law_1338 ?_
  refine v_aload_n X 0 dL_law_1339 rfl rfl ?_
  refine v_iload_n X 3 dL_law_1340 rfl rfl ?_
  refine v_iconst X dL_law_1341 (v := (5 : Int32)) (by decide) ?_
  refine v_iadd X dL_law_1342 ?_
  refine v_sldK X XS h5 g5 dL_law_1343 ?_
  obtain ⟨o, ho⟩ : ∃ o, ∀ P : oR → Prop, P o → sp_copy R a1 a2 a3 a4 a5 (cX_fd x) (cX_fs x) (pR P) := t_copy N.1
  refine lx_copyB X hkn (Nat.le_of_ble_eq_true rfl) hW C G S0 ho (fun r x' e I' => ?_)
  refine v_aload_n X 2 dL_law_1347 rfl rfl ?_
  refine v_aload_n X 0 dL_law_1348 rfl rfl ?_
  refine v_iload_n X 3 dL_law_1349 rfl rfl ?_
  refine v_iconst X dL_law_1350 (v := (1 : Int32)) (by decide) ?_
  refine v_iadd X dL_law_1351 ?_
  refine v_sldK X XS h1 g1 dL_law_1352 ?_
  refine v_aload_n X 0 dL_law_1353 rfl rfl ?_
  refine v_iload_n X 3 dL_law_1354 rfl rfl ?_
  refine v_iconst X dL_law_1355 (v := (2 : Int32)) (by decide) ?_
  refine v_iadd X dL_law_1356 ?_
  refine v_sldK X XS h2 g2 dL_law_1357 ?_
  refine v_aload_n X 0 dL_law_1358 rfl rfl ?_
  refine v_iload_n X 3 dL_law_1359 rfl rfl ?_
  refine v_iconst X dL_law_1360 (v := (3 : Int32)) (by decide) ?_
  refine v_iadd X dL_law_1361 ?_
  refine v_sldK X XS h3 g3 dL_law_1362 ?_
  refine v_aload_n X 0 dL_law_1363 rfl rfl ?_
  refine v_iload_n X 3 dL_law_1364 rfl rfl ?_
  refine v_iconst X dL_law_1365 (v := (4 : Int32)) (by decide) ?_
  refine v_iadd X dL_law_1366 ?_
  refine v_sldK X XS h4 g4 dL_law_1367 ?_
  refine v_aload_n X 0 dL_law_1368 rfl rfl ?_
  refine v_iload_n X 3 dL_law_1369 rfl rfl ?_
  refine v_iconst X dL_law_1370 (v := (5 : Int32)) (by decide) ?_
  refine v_iadd X dL_law_1371 ?_
  refine v_sldK X XS h5 g5 dL_law_1372 ?_
  refine v_perm List.perm_append_comm ?_
  refine ly_copy X hkn (Nat.le_of_ble_eq_true rfl) M N S1 (o := o) (by rw [f1, f2]; exact ho) (fun r' y' e' J' => ?_)
  refine v_perm List.perm_append_comm ?_
  exact v_icmp_eq X (tgt := 1468) dL_law_1376 (by decide) (fun _ => K _ _ _ _ _ _ _ _ _ I' (IY_cast J' rfl rfl f3 f4)) (fun c => absurd (e.trans e'.symm) c)
set_option maxHeartbeats 4000000 in
set_option maxRecDepth 100000 in
theorem lc_asked {E : vE} {T : Nat → ClassId} {k n : Nat} (X : vX E cL_law 4 RL wsL_law (vT T) room_1) {b L : Nat} {xs : Nat → Int32} (XS : vS E b L xs) (hkn : k ≤ room_1.cells ∧ n ≤ room_1.slots) {oX oY : Nat} {x3 a1 a2 a3 a4 a5 : Int32} (h1 : vp_in (x3 + 1) L) (h2 : vp_in (x3 + 2) L) (h3 : vp_in (x3 + 3) L) (h4 : vp_in (x3 + 4) L) (h5 : vp_in (x3 + 5) L) (g1 : xs (x3 + 1).toNatClampNeg = a1) (g2 : xs (x3 + 2).toNatClampNeg = a2) (g3 : xs (x3 + 3).toNatClampNeg = a3) (g4 : xs (x3 + 4).toNatClampNeg = a4) (g5 : xs (x3 + 5).toNatClampNeg = a5) {W : AW} {R : AR} {fd : Int32} {fs : Nat → Int32} {tr : Int32} {ask : Int64} {S : SV} {x : CX} {y : CY} (I : IX W R fd fs tr ask S x) (J : IY W R fd fs tr ask S y) (K : LK E T k n b oX oY x3) : V E k n 1381 [(0, .ref b), (1, .ref oX), (2, .ref oY), (3, .int x3)] [] (clX T oX x ++ clY T oY y) := by
  obtain ⟨C, G, rfl, rfl, rfl, rfl, S0⟩ := I
  obtain ⟨M, N, f1, f2, f3, f4, S1⟩ := J
  have hW : AWok W := M.1
  refine v_aload_n X 1 dL_law_1381 rfl rfl ?_
  refine lx_asked X hkn (Nat.le_of_ble_eq_true rfl) hW C G S0 (fun r x' e I' => ?_)
  refine v_aload_n X 2 dL_law_1385 rfl rfl ?_
  refine v_perm List.perm_append_comm ?_
  refine ly_asked X hkn (Nat.le_of_ble_eq_true rfl) M N S1 (fun r' y' e' J' => ?_)
  refine v_perm List.perm_append_comm ?_
  refine v_lcmp X dL_law_1389 ?_
  exact v_if_eq X (tgt := 1468) dL_law_1390 (by decide) (fun _ => K _ _ _ _ _ _ _ _ _ I' (IY_cast J' f1 f2 f3 f4)) (fun c => absurd ((lg_cmp_eq r r').mpr (e.trans (f4.symm.trans e'.symm))) c)
set_option maxHeartbeats 4000000 in
set_option maxRecDepth 100000 in
theorem lc_count {E : vE} {T : Nat → ClassId} {k n : Nat} (X : vX E cL_law 4 RL wsL_law (vT T) room_1) {b L : Nat} {xs : Nat → Int32} (XS : vS E b L xs) (hkn : k ≤ room_1.cells ∧ n ≤ room_1.slots) {oX oY : Nat} {x3 a1 a2 a3 a4 a5 : Int32} (h1 : vp_in (x3 + 1) L) (h2 : vp_in (x3 + 2) L) (h3 : vp_in (x3 + 3) L) (h4 : vp_in (x3 + 4) L) (h5 : vp_in (x3 + 5) L) (g1 : xs (x3 + 1).toNatClampNeg = a1) (g2 : xs (x3 + 2).toNatClampNeg = a2) (g3 : xs (x3 + 3).toNatClampNeg = a3) (g4 : xs (x3 + 4).toNatClampNeg = a4) (g5 : xs (x3 + 5).toNatClampNeg = a5) {W : AW} {R : AR} {fd : Int32} {fs : Nat → Int32} {tr : Int32} {ask : Int64} {S : SV} {x : CX} {y : CY} (I : IX W R fd fs tr ask S x) (J : IY W R fd fs tr ask S y) (K : LK E T k n b oX oY x3) : V E k n 1395 [(0, .ref b), (1, .ref oX), (2, .ref oY), (3, .int x3)] [] (clX T oX x ++ clY T oY y) := by
  obtain ⟨C, G, rfl, rfl, rfl, rfl, S0⟩ := I
  obtain ⟨M, N, f1, f2, f3, f4, S1⟩ := J
  have hW : AWok W := M.1
  refine v_aload_n X 1 dL_law_1395 rfl rfl ?_
  refine v_aload_n X 0 dL_law_1396 rfl rfl ?_
  refine v_iload_n X 3 dL_law_1397 rfl rfl ?_
  refine v_iconst X dL_law_1398 (v := (1 : Int32)) (by decide) ?_
  refine v_iadd X dL_law_1399 ?_
  refine v_sldK X XS h1 g1 dL_law_1400 ?_
  obtain ⟨o, ho⟩ : ∃ o, ∀ P : Int32 → Prop, P o → sp_count W R a1 P := t_count
  refine lx_count X hkn (Nat.le_of_ble_eq_true rfl) hW C G S0 ho (fun r x' e I' => ?_)
  refine v_aload_n X 2 dL_law_1404 rfl rfl ?_
  refine v_aload_n X 0 dL_law_1405 rfl rfl ?_
  refine v_iload_n X 3 dL_law_1406 rfl rfl ?_
  refine v_iconst X dL_law_1407 (v := (1 : Int32)) (by decide) ?_
  refine v_iadd X dL_law_1408 ?_
  refine v_sldK X XS h1 g1 dL_law_1409 ?_
  refine v_perm List.perm_append_comm ?_
  refine ly_count X hkn (Nat.le_of_ble_eq_true rfl) M N S1 (o := o) ho (fun r' y' e' J' => ?_)
  refine v_perm List.perm_append_comm ?_
  exact v_icmp_eq X (tgt := 1468) dL_law_1413 (by decide) (fun _ => K _ _ _ _ _ _ _ _ _ I' (IY_cast J' f1 f2 f3 f4)) (fun c => absurd (e.trans e'.symm) c)
set_option maxHeartbeats 4000000 in
set_option maxRecDepth 100000 in
theorem lc_finding {E : vE} {T : Nat → ClassId} {k n : Nat} (X : vX E cL_law 4 RL wsL_law (vT T) room_1) {b L : Nat} {xs : Nat → Int32} (XS : vS E b L xs) (hkn : k ≤ room_1.cells ∧ n ≤ room_1.slots) {oX oY : Nat} {x3 a1 a2 a3 a4 a5 : Int32} (h1 : vp_in (x3 + 1) L) (h2 : vp_in (x3 + 2) L) (h3 : vp_in (x3 + 3) L) (h4 : vp_in (x3 + 4) L) (h5 : vp_in (x3 + 5) L) (g1 : xs (x3 + 1).toNatClampNeg = a1) (g2 : xs (x3 + 2).toNatClampNeg = a2) (g3 : xs (x3 + 3).toNatClampNeg = a3) (g4 : xs (x3 + 4).toNatClampNeg = a4) (g5 : xs (x3 + 5).toNatClampNeg = a5) {W : AW} {R : AR} {fd : Int32} {fs : Nat → Int32} {tr : Int32} {ask : Int64} {S : SV} {x : CX} {y : CY} (I : IX W R fd fs tr ask S x) (J : IY W R fd fs tr ask S y) (K : LK E T k n b oX oY x3) : V E k n 1418 [(0, .ref b), (1, .ref oX), (2, .ref oY), (3, .int x3)] [] (clX T oX x ++ clY T oY y) := by
  obtain ⟨C, G, rfl, rfl, rfl, rfl, S0⟩ := I
  obtain ⟨M, N, f1, f2, f3, f4, S1⟩ := J
  have hW : AWok W := M.1
  refine v_aload_n X 1 dL_law_1418 rfl rfl ?_
  refine lx_finding X hkn (Nat.le_of_ble_eq_true rfl) hW C G S0 (fun r x' e I' => ?_)
  refine v_aload_n X 2 dL_law_1422 rfl rfl ?_
  refine v_perm List.perm_append_comm ?_
  refine ly_finding X hkn (Nat.le_of_ble_eq_true rfl) M N S1 (fun r' y' e' J' => ?_)
  refine v_perm List.perm_append_comm ?_
  exact v_icmp_eq X (tgt := 1468) dL_law_1426 (by decide) (fun _ => K _ _ _ _ _ _ _ _ _ I' (IY_cast J' f1 f2 f3 f4)) (fun c => absurd (e.trans (f1.symm.trans e'.symm)) c)
set_option maxHeartbeats 4000000 in
set_option maxRecDepth 100000 in
theorem lc_findings {E : vE} {T : Nat → ClassId} {k n : Nat} (X : vX E cL_law 4 RL wsL_law (vT T) room_1) {b L : Nat} {xs : Nat → Int32} (XS : vS E b L xs) (hkn : k ≤ room_1.cells ∧ n ≤ room_1.slots) {oX oY : Nat} {x3 a1 a2 a3 a4 a5 : Int32} (h1 : vp_in (x3 + 1) L) (h2 : vp_in (x3 + 2) L) (h3 : vp_in (x3 + 3) L) (h4 : vp_in (x3 + 4) L) (h5 : vp_in (x3 + 5) L) (g1 : xs (x3 + 1).toNatClampNeg = a1) (g2 : xs (x3 + 2).toNatClampNeg = a2) (g3 : xs (x3 + 3).toNatClampNeg = a3) (g4 : xs (x3 + 4).toNatClampNeg = a4) (g5 : xs (x3 + 5).toNatClampNeg = a5) {W : AW} {R : AR} {fd : Int32} {fs : Nat → Int32} {tr : Int32} {ask : Int64} {S : SV} {x : CX} {y : CY} (I : IX W R fd fs tr ask S x) (J : IY W R fd fs tr ask S y) (K : LK E T k n b oX oY x3) : V E k n 1431 [(0, .ref b), (1, .ref oX), (2, .ref oY), (3, .int x3)] [] (clX T oX x ++ clY T oY y) := by
  obtain ⟨C, G, rfl, rfl, rfl, rfl, S0⟩ := I
  obtain ⟨M, N, f1, f2, f3, f4, S1⟩ := J
  have hW : AWok W := M.1
  refine v_aload_n X 1 dL_law_1431 rfl rfl ?_
  refine v_aload_n X 0 dL_law_1432 rfl rfl ?_
  refine v_iload_n X 3 dL_law_1433 rfl rfl ?_
  refine v_iconst X dL_law_1434 (v := (1 : Int32)) (by decide) ?_
  refine v_iadd X dL_law_1435 ?_
  refine v_sldK X XS h1 g1 dL_law_1436 ?_
  obtain ⟨o, ho⟩ : ∃ o, ∀ P : Int32 → Prop, P o → sp_findings a1 (cX_fs x) P := t_findings
  refine lx_findings X hkn (Nat.le_of_ble_eq_true rfl) hW C G S0 ho (fun r x' e I' => ?_)
  refine v_aload_n X 2 dL_law_1440 rfl rfl ?_
  refine v_aload_n X 0 dL_law_1441 rfl rfl ?_
  refine v_iload_n X 3 dL_law_1442 rfl rfl ?_
  refine v_iconst X dL_law_1443 (v := (1 : Int32)) (by decide) ?_
  refine v_iadd X dL_law_1444 ?_
  refine v_sldK X XS h1 g1 dL_law_1445 ?_
  refine v_perm List.perm_append_comm ?_
  refine ly_findings X hkn (Nat.le_of_ble_eq_true rfl) M N S1 (o := o) (by rw [f2]; exact ho) (fun r' y' e' J' => ?_)
  refine v_perm List.perm_append_comm ?_
  exact v_icmp_eq X (tgt := 1468) dL_law_1449 (by decide) (fun _ => K _ _ _ _ _ _ _ _ _ I' (IY_cast J' f1 f2 f3 f4)) (fun c => absurd (e.trans e'.symm) c)
set_option maxHeartbeats 4000000 in
set_option maxRecDepth 100000 in
theorem lc_digest {E : vE} {T : Nat → ClassId} {k n : Nat} (X : vX E cL_law 4 RL wsL_law (vT T) room_1) {b L : Nat} {xs : Nat → Int32} (XS : vS E b L xs) (hkn : k ≤ room_1.cells ∧ n ≤ room_1.slots) {oX oY : Nat} {x3 a1 a2 a3 a4 a5 : Int32} (h1 : vp_in (x3 + 1) L) (h2 : vp_in (x3 + 2) L) (h3 : vp_in (x3 + 3) L) (h4 : vp_in (x3 + 4) L) (h5 : vp_in (x3 + 5) L) (g1 : xs (x3 + 1).toNatClampNeg = a1) (g2 : xs (x3 + 2).toNatClampNeg = a2) (g3 : xs (x3 + 3).toNatClampNeg = a3) (g4 : xs (x3 + 4).toNatClampNeg = a4) (g5 : xs (x3 + 5).toNatClampNeg = a5) {W : AW} {R : AR} {fd : Int32} {fs : Nat → Int32} {tr : Int32} {ask : Int64} {S : SV} {x : CX} {y : CY} (I : IX W R fd fs tr ask S x) (J : IY W R fd fs tr ask S y) (K : LK E T k n b oX oY x3) : V E k n 1454 [(0, .ref b), (1, .ref oX), (2, .ref oY), (3, .int x3)] [] (clX T oX x ++ clY T oY y) := by
  obtain ⟨C, G, rfl, rfl, rfl, rfl, S0⟩ := I
  obtain ⟨M, N, f1, f2, f3, f4, S1⟩ := J
  have hW : AWok W := M.1
  refine v_aload_n X 1 dL_law_1454 rfl rfl ?_
  obtain ⟨o, ho⟩ : ∃ o, ∀ P : Int64 → Prop, P o → sp_digest W R P := t_digest
  refine lx_digest X hkn (Nat.le_of_ble_eq_true rfl) hW C G S0 ho (fun r x' e I' => ?_)
  refine v_aload_n X 2 dL_law_1458 rfl rfl ?_
  refine v_perm List.perm_append_comm ?_
  refine ly_digest X hkn (Nat.le_of_ble_eq_true rfl) M N S1 (o := o) ho (fun r' y' e' J' => ?_)
  refine v_perm List.perm_append_comm ?_
  refine v_lcmp X dL_law_1462 ?_
  exact v_if_eq X (tgt := 1468) dL_law_1463 (by decide) (fun _ => K _ _ _ _ _ _ _ _ _ I' (IY_cast J' f1 f2 f3 f4)) (fun c => absurd ((lg_cmp_eq r r').mpr (e.trans e'.symm)) c)
