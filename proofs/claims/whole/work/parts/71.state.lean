/-! the law, 2: what the class's object and the reference's hold, as cells and as numbers -/
abbrev XW : Type := Nat × (Nat → Nat) × Int32 × Int32 × Int32 × Int32 × Int32 × (Nat → Int64) × (Nat → Int64) × (Nat → Int64)
abbrev cW_o (x : XW) : Nat := x.1
abbrev cW_a (x : XW) : Nat → Nat := x.2.1
abbrev cW_t (x : XW) : Int32 := x.2.2.1
abbrev cW_k (x : XW) : Int32 := x.2.2.2.1
abbrev cW_g (x : XW) : Int32 := x.2.2.2.2.1
abbrev cW_z (x : XW) : Int32 := x.2.2.2.2.2.1
abbrev cW_l (x : XW) : Int32 := x.2.2.2.2.2.2.1
abbrev cW_n (x : XW) : Nat → Int64 := x.2.2.2.2.2.2.2.1
abbrev cW_s (x : XW) : Nat → Int64 := x.2.2.2.2.2.2.2.2.1
abbrev cW_h (x : XW) : Nat → Int64 := x.2.2.2.2.2.2.2.2.2
abbrev XR : Type := Nat × (Nat → Int32)
abbrev cR_o (x : XR) : Nat := x.1
abbrev cR_v (x : XR) : Nat → Int32 := x.2
abbrev CX : Type := (Nat → Nat) × (Nat → Nat) × (Nat → Nat) × (Nat → XW) × (Nat → XR) × Int32 × Int32 × Int32 × Int64 × (Nat → Option Nat) × (Nat → Option Nat) × (Nat → Int32) × (Nat → Int32) × (Nat → Int32) × (Nat → Int32) × Int64 × Int32 × Int32 × Int32 × Int32 × Int64 × (Nat → Int64) × (Nat → Int64) × (Nat → Int64) × Int32 × Int32 × Int32 × Int32 × (Nat → Int32) × (Nat → Int64) × (Nat → Int64)
abbrev cX_aX (x : CX) : Nat → Nat := x.1
abbrev cX_aS (x : CX) : Nat → Nat := x.2.1
abbrev cX_aM (x : CX) : Nat → Nat := x.2.2.1
abbrev cX_w (x : CX) : Nat → XW := x.2.2.2.1
abbrev cX_rw (x : CX) : Nat → XR := x.2.2.2.2.1
abbrev cX_ss (x : CX) : Int32 := x.2.2.2.2.2.1
abbrev cX_fd (x : CX) : Int32 := x.2.2.2.2.2.2.1
abbrev cX_tr (x : CX) : Int32 := x.2.2.2.2.2.2.2.1
abbrev cX_ask (x : CX) : Int64 := x.2.2.2.2.2.2.2.2.1
abbrev cX_wr (x : CX) : Nat → Option Nat := x.2.2.2.2.2.2.2.2.2.1
abbrev cX_rp (x : CX) : Nat → Option Nat := x.2.2.2.2.2.2.2.2.2.2.1
abbrev cX_rs (x : CX) : Nat → Int32 := x.2.2.2.2.2.2.2.2.2.2.2.1
abbrev cX_fs (x : CX) : Nat → Int32 := x.2.2.2.2.2.2.2.2.2.2.2.2.1
abbrev cX_sn (x : CX) : Nat → Int32 := x.2.2.2.2.2.2.2.2.2.2.2.2.2.1
abbrev cX_rc (x : CX) : Nat → Int32 := x.2.2.2.2.2.2.2.2.2.2.2.2.2.2.1
abbrev cX_am (x : CX) : Int64 := x.2.2.2.2.2.2.2.2.2.2.2.2.2.2.2.1
abbrev cX_sd (x : CX) : Int32 := x.2.2.2.2.2.2.2.2.2.2.2.2.2.2.2.2.1
abbrev cX_st (x : CX) : Int32 := x.2.2.2.2.2.2.2.2.2.2.2.2.2.2.2.2.2.1
abbrev cX_sp (x : CX) : Int32 := x.2.2.2.2.2.2.2.2.2.2.2.2.2.2.2.2.2.2.1
abbrev cX_sf (x : CX) : Int32 := x.2.2.2.2.2.2.2.2.2.2.2.2.2.2.2.2.2.2.2.1
abbrev cX_sq (x : CX) : Int64 := x.2.2.2.2.2.2.2.2.2.2.2.2.2.2.2.2.2.2.2.2.1
abbrev cX_sM (x : CX) : Nat → Int64 := x.2.2.2.2.2.2.2.2.2.2.2.2.2.2.2.2.2.2.2.2.2.1
abbrev cX_sT (x : CX) : Nat → Int64 := x.2.2.2.2.2.2.2.2.2.2.2.2.2.2.2.2.2.2.2.2.2.2.1
abbrev cX_sC (x : CX) : Nat → Int64 := x.2.2.2.2.2.2.2.2.2.2.2.2.2.2.2.2.2.2.2.2.2.2.2.1
abbrev cX_md (x : CX) : Int32 := x.2.2.2.2.2.2.2.2.2.2.2.2.2.2.2.2.2.2.2.2.2.2.2.2.1
abbrev cX_mt (x : CX) : Int32 := x.2.2.2.2.2.2.2.2.2.2.2.2.2.2.2.2.2.2.2.2.2.2.2.2.2.1
abbrev cX_mp (x : CX) : Int32 := x.2.2.2.2.2.2.2.2.2.2.2.2.2.2.2.2.2.2.2.2.2.2.2.2.2.2.1
abbrev cX_mf (x : CX) : Int32 := x.2.2.2.2.2.2.2.2.2.2.2.2.2.2.2.2.2.2.2.2.2.2.2.2.2.2.2.1
abbrev cX_im (x : CX) : Nat → Int32 := x.2.2.2.2.2.2.2.2.2.2.2.2.2.2.2.2.2.2.2.2.2.2.2.2.2.2.2.2.1
abbrev cX_mU (x : CX) : Nat → Int64 := x.2.2.2.2.2.2.2.2.2.2.2.2.2.2.2.2.2.2.2.2.2.2.2.2.2.2.2.2.2.1
abbrev cX_mC (x : CX) : Nat → Int64 := x.2.2.2.2.2.2.2.2.2.2.2.2.2.2.2.2.2.2.2.2.2.2.2.2.2.2.2.2.2.2
abbrev CY : Type := (Nat → Nat) × Int32 × Int64 × Int32 × Int32 × Int64 × Int32 × Int32 × Int32 × Int32 × (Nat → Int32) × (Nat → Int32) × (Nat → Int32) × (Nat → Int32) × (Nat → Int32) × (Nat → Int64) × (Nat → Int64) × (Nat → Int32) × (Nat → Int64) × (Nat → Int64) × (Nat → Int64) × (Nat → Int32) × (Nat → Int64) × (Nat → Int64) × (Nat → Int32) × (Nat → Int32) × (Nat → Int32) × (Nat → Int64) × (Nat → Int64) × (Nat → Int32) × (Nat → Int32) × (Nat → Int32) × (Nat → Int32) × (Nat → Int32)
abbrev cY_aY (x : CY) : Nat → Nat := x.1
abbrev cY_fd (x : CY) : Int32 := x.2.1
abbrev cY_ask (x : CY) : Int64 := x.2.2.1
abbrev cY_np (x : CY) : Int32 := x.2.2.2.1
abbrev cY_nl (x : CY) : Int32 := x.2.2.2.2.1
abbrev cY_fa (x : CY) : Int64 := x.2.2.2.2.2.1
abbrev cY_tr (x : CY) : Int32 := x.2.2.2.2.2.2.1
abbrev cY_th (x : CY) : Int32 := x.2.2.2.2.2.2.2.1
abbrev cY_go (x : CY) : Int32 := x.2.2.2.2.2.2.2.2.1
abbrev cY_lv (x : CY) : Int32 := x.2.2.2.2.2.2.2.2.2.1
abbrev cY_fs (x : CY) : Nat → Int32 := x.2.2.2.2.2.2.2.2.2.2.1
abbrev cY_pt (x : CY) : Nat → Int32 := x.2.2.2.2.2.2.2.2.2.2.2.1
abbrev cY_lc (x : CY) : Nat → Int32 := x.2.2.2.2.2.2.2.2.2.2.2.2.1
abbrev cY_ks (x : CY) : Nat → Int32 := x.2.2.2.2.2.2.2.2.2.2.2.2.2.1
abbrev cY_ms (x : CY) : Nat → Int32 := x.2.2.2.2.2.2.2.2.2.2.2.2.2.2.1
abbrev cY_ln (x : CY) : Nat → Int64 := x.2.2.2.2.2.2.2.2.2.2.2.2.2.2.2.1
abbrev cY_nr (x : CY) : Nat → Int64 := x.2.2.2.2.2.2.2.2.2.2.2.2.2.2.2.2.1
abbrev cY_lt (x : CY) : Nat → Int32 := x.2.2.2.2.2.2.2.2.2.2.2.2.2.2.2.2.2.1
abbrev cY_bs (x : CY) : Nat → Int64 := x.2.2.2.2.2.2.2.2.2.2.2.2.2.2.2.2.2.2.1
abbrev cY_hi (x : CY) : Nat → Int64 := x.2.2.2.2.2.2.2.2.2.2.2.2.2.2.2.2.2.2.2.1
abbrev cY_ch (x : CY) : Nat → Int64 := x.2.2.2.2.2.2.2.2.2.2.2.2.2.2.2.2.2.2.2.2.1
abbrev cY_tk (x : CY) : Nat → Int32 := x.2.2.2.2.2.2.2.2.2.2.2.2.2.2.2.2.2.2.2.2.2.1
abbrev cY_bd (x : CY) : Nat → Int64 := x.2.2.2.2.2.2.2.2.2.2.2.2.2.2.2.2.2.2.2.2.2.2.1
abbrev cY_mt (x : CY) : Nat → Int64 := x.2.2.2.2.2.2.2.2.2.2.2.2.2.2.2.2.2.2.2.2.2.2.2.1
abbrev cY_tb (x : CY) : Nat → Int32 := x.2.2.2.2.2.2.2.2.2.2.2.2.2.2.2.2.2.2.2.2.2.2.2.2.1
abbrev cY_sn (x : CY) : Nat → Int32 := x.2.2.2.2.2.2.2.2.2.2.2.2.2.2.2.2.2.2.2.2.2.2.2.2.2.1
abbrev cY_gs (x : CY) : Nat → Int32 := x.2.2.2.2.2.2.2.2.2.2.2.2.2.2.2.2.2.2.2.2.2.2.2.2.2.2.1
abbrev cY_ns (x : CY) : Nat → Int64 := x.2.2.2.2.2.2.2.2.2.2.2.2.2.2.2.2.2.2.2.2.2.2.2.2.2.2.2.1
abbrev cY_on (x : CY) : Nat → Int64 := x.2.2.2.2.2.2.2.2.2.2.2.2.2.2.2.2.2.2.2.2.2.2.2.2.2.2.2.2.1
abbrev cY_dg (x : CY) : Nat → Int32 := x.2.2.2.2.2.2.2.2.2.2.2.2.2.2.2.2.2.2.2.2.2.2.2.2.2.2.2.2.2.1
abbrev cY_od (x : CY) : Nat → Int32 := x.2.2.2.2.2.2.2.2.2.2.2.2.2.2.2.2.2.2.2.2.2.2.2.2.2.2.2.2.2.2.1
abbrev cY_sz (x : CY) : Nat → Int32 := x.2.2.2.2.2.2.2.2.2.2.2.2.2.2.2.2.2.2.2.2.2.2.2.2.2.2.2.2.2.2.2.1
abbrev cY_rw (x : CY) : Nat → Int32 := x.2.2.2.2.2.2.2.2.2.2.2.2.2.2.2.2.2.2.2.2.2.2.2.2.2.2.2.2.2.2.2.2.1
abbrev cY_mv (x : CY) : Nat → Int32 := x.2.2.2.2.2.2.2.2.2.2.2.2.2.2.2.2.2.2.2.2.2.2.2.2.2.2.2.2.2.2.2.2.2
abbrev wcl (T : Nat → ClassId) (v : XW) : va_W := [vO (cW_o v) 2 [.ref (cW_a v 0), .ref (cW_a v 1), .ref (cW_a v 2), .int (cW_t v), .int (cW_k v), .int (cW_g v), .int (cW_z v), .int (cW_l v)], vJ T (cW_a v 2) 45 (cW_n v), vJ T (cW_a v 0) 45 (cW_s v), vJ T (cW_a v 1) 45 (cW_h v)]
abbrev rcl (T : Nat → ClassId) (v : XR) : va_W := [vI T (cR_o v) 12 (cR_v v)]
abbrev bXq (T : Nat → ClassId) (o q : Nat) (x : CX) : va_W := [vO o 3 [.ref (cX_aX x 0), .ref (cX_aX x 1), .ref (cX_aX x 2), .ref (cX_aX x 3), .ref (cX_aX x 4), .ref (cX_aX x 5), .ref (cX_aX x 6), .ref (cX_aX x 7), .ref q, .int (cX_ss x), .int (cX_fd x), .int (cX_tr x), .long (cX_ask x)], vR T 2 (cX_aX x 0) 6 (cX_wr x), vR T 3 (cX_aX x 1) 4 (cX_rp x), vI T (cX_aX x 2) 4 (cX_rs x), vI T (cX_aX x 3) 6 (cX_fs x), vI T (cX_aX x 4) 45 (cX_sn x), vI T (cX_aX x 5) 2025 (cX_rc x), vO (cX_aX x 6) 1 [.ref (cX_aS x 0), .ref (cX_aS x 1), .ref (cX_aS x 2), .long (cX_am x), .int (cX_sd x), .int (cX_st x), .int (cX_sp x), .int (cX_sf x), .long (cX_sq x)], vJ T (cX_aS x 0) 46 (cX_sM x), vJ T (cX_aS x 1) 46 (cX_sT x), vJ T (cX_aS x 2) 46 (cX_sC x), vO (cX_aX x 7) 0 [.ref (cX_aM x 0), .ref (cX_aM x 1), .ref (cX_aM x 2), .int (cX_md x), .int (cX_mt x), .int (cX_mp x), .int (cX_mf x)], vI T (cX_aM x 0) 45 (cX_im x), vJ T (cX_aM x 1) 46 (cX_mU x), vJ T (cX_aM x 2) 46 (cX_mC x)]
abbrev bX (T : Nat → ClassId) (o : Nat) (x : CX) : va_W := bXq T o (cW_o (cX_w x 6)) x
abbrev clX (T : Nat → ClassId) (o : Nat) (x : CX) : va_W := bX T o x ++ (als (fun j => rcl T (cX_rw x j)) 4 ++ als (fun j => wcl T (cX_w x j)) 7)
abbrev clY (T : Nat → ClassId) (o : Nat) (y : CY) : va_W := [vO o 4 [.int (cY_fd y), .ref (cY_aY y 1), .long (cY_ask y), .ref (cY_aY y 3), .ref (cY_aY y 4), .ref (cY_aY y 5), .ref (cY_aY y 6), .ref (cY_aY y 7), .int (cY_np y), .int (cY_nl y), .ref (cY_aY y 10), .ref (cY_aY y 11), .long (cY_fa y), .int (cY_tr y), .int (cY_th y), .int (cY_go y), .ref (cY_aY y 16), .ref (cY_aY y 17), .ref (cY_aY y 18), .ref (cY_aY y 19), .ref (cY_aY y 20), .ref (cY_aY y 21), .int (cY_lv y), .ref (cY_aY y 23), .ref (cY_aY y 24), .ref (cY_aY y 25), .ref (cY_aY y 26), .ref (cY_aY y 27), .ref (cY_aY y 28), .ref (cY_aY y 29), .ref (cY_aY y 30), .ref (cY_aY y 31), .ref (cY_aY y 32)], vI T (cY_aY y 1) 6 (cY_fs y), vI T (cY_aY y 3) 6 (cY_pt y), vI T (cY_aY y 4) 6 (cY_lc y), vI T (cY_aY y 5) 6 (cY_ks y), vI T (cY_aY y 6) 6 (cY_ms y), vJ T (cY_aY y 7) 270 (cY_ln y), vJ T (cY_aY y 10) 120 (cY_nr y), vI T (cY_aY y 11) 160 (cY_lt y), vJ T (cY_aY y 16) 45 (cY_bs y), vJ T (cY_aY y 17) 45 (cY_hi y), vJ T (cY_aY y 18) 45 (cY_ch y), vI T (cY_aY y 19) 46 (cY_tk y), vJ T (cY_aY y 20) 47 (cY_bd y), vJ T (cY_aY y 21) 47 (cY_mt y), vI T (cY_aY y 23) 2025 (cY_tb y), vI T (cY_aY y 24) 45 (cY_sn y), vI T (cY_aY y 25) 46 (cY_gs y), vJ T (cY_aY y 26) 45 (cY_ns y), vJ T (cY_aY y 27) 45 (cY_on y), vI T (cY_aY y 28) 45 (cY_dg y), vI T (cY_aY y 29) 45 (cY_od y), vI T (cY_aY y 30) 4 (cY_sz y), vI T (cY_aY y 31) 48 (cY_rw y), vI T (cY_aY y 32) 12 (cY_mv y)]
def CV (v : AV) (w : XW) : Prop := CW v (cW_t w) (cW_k w) (cW_g w) (cW_z w) (cW_l w) (cW_n w) (cW_s w) (cW_h w)
def CWq (W : AW) (wr : Nat → Option Nat) (w : Nat → XW) : Prop := ∀ j, j < 6 → wr j = some (cW_o (w j)) ∧ CV (W j) (w j)
def RWq (R : AR) (rs : Nat → Int32) (rp : Nat → Option Nat) (rw : Nat → XR) : Prop := RS R rs ∧ ∀ j, j < 4 → rp j = some (cR_o (rw j)) ∧ RC (R j) (cR_v (rw j))
def IX (W : AW) (R : AR) (fd : Int32) (fs : Nat → Int32) (tr : Int32) (ask : Int64) (S : SV) (x : CX) : Prop := CWq W (cX_wr x) (cX_w x) ∧ RWq R (cX_rs x) (cX_rp x) (cX_rw x) ∧ cX_fd x = fd ∧ cX_fs x = fs ∧ cX_tr x = tr ∧ cX_ask x = ask ∧ CS S (cX_ss x) (cX_sn x)
def IY (W : AW) (R : AR) (fd : Int32) (fs : Nat → Int32) (tr : Int32) (ask : Int64) (S : SV) (y : CY) : Prop := MW W (cY_ks y) (cY_lc y) (cY_ln y) (cY_ms y) (cY_pt y) ∧ MR R (cY_rw y) (cY_sz y) ∧ cY_fd y = fd ∧ cY_fs y = fs ∧ cY_tr y = tr ∧ cY_ask y = ask ∧ MS' S (cY_sn y)
theorem CWq_up {W W' : AW} {wr : Nat → Option Nat} {w : Nat → XW} {f : Nat} {v : XW} (C : CWq W wr w) (h0 : cW_o v = cW_o (w f)) (hF : CV (W' f) v ∧ ∀ i, i ≠ f → W' i = W i) : CWq W' wr (ups f v w) := by
  intro j hj
  by_cases e : j = f
  · subst e
    rw [ups_same, h0]
    exact ⟨(C j hj).1, hF.1⟩
  · rw [ups_ne e, hF.2 j e]
    exact C j hj
theorem CWq_6 {W : AW} {wr : Nat → Option Nat} {w : Nat → XW} {v : XW} (C : CWq W wr w) : CWq W wr (ups 6 v w) := by
  intro j hj
  rw [ups_ne (by omega)]
  exact C j hj
theorem vaup_same {f : Nat → Option Nat} {k : Nat} {v : Option Nat} : va_up f k v k = v := by unfold va_up; exact if_pos rfl
theorem vaup_ne {f : Nat → Option Nat} {k i : Nat} {v : Option Nat} (h : i ≠ k) : va_up f k v i = f i := by unfold va_up; exact if_neg h
theorem CWq_sw {W W' : AW} {wr : Nat → Option Nat} {w : Nat → XW} {b : Nat} {v : XW} (C : CWq W wr w) (hb : b < 6) (h0 : ∀ i, i ≠ b → W' i = W i) (hF : CV (W' b) v) : CWq W' (va_up wr b (some (cW_o v))) (ups 6 (w b) (ups b v w)) := by
  intro j hj
  rw [ups_ne (show j ≠ 6 by omega)]
  by_cases e : j = b
  · subst e
    rw [ups_same, vaup_same]
    exact ⟨rfl, hF⟩
  · rw [ups_ne e, vaup_ne e, h0 j e]
    exact C j hj
theorem RWq_up {R R' : AR} {rs rs' : Nat → Int32} {rp : Nat → Option Nat} {rw : Nat → XR} {f : Nat} {v : XR} (G : RWq R rs rp rw) (h0 : cR_o v = cR_o (rw f)) (hF : FR R R' f rs' (cR_v v)) : RWq R' rs' rp (ups f v rw) := by
  refine ⟨hF.1, fun j hj => ?_⟩
  by_cases e : j = f
  · subst e
    rw [ups_same, h0]
    exact ⟨(G.2 j hj).1, hF.2.1⟩
  · rw [ups_ne e, hF.2.2 j e]
    exact G.2 j hj
theorem RWq_rs {R R' : AR} {rs rs' : Nat → Int32} {rp : Nat → Option Nat} {rw : Nat → XR} {f : Nat} (G : RWq R rs rp rw) (hF : FR R R' f rs' (cR_v (rw f))) : RWq R' rs' rp rw := by
  refine ⟨hF.1, fun j hj => ?_⟩
  by_cases e : j = f
  · subst e
    exact ⟨(G.2 j hj).1, hF.2.1⟩
  · rw [hF.2.2 j e]
    exact G.2 j hj
theorem pick {N : Nat} (h0 : 0 < N) (hN : N < 2 ^ 31) (x : Int32) : ∃ f, f < N ∧ ∀ j, j < N → x = nI j → j = f := by
  by_cases c : num x N
  · obtain ⟨f, hf, e⟩ := c
    exact ⟨f, hf, fun j hj e' => num_1 hN hj hf e' e⟩
  · exact ⟨0, h0, fun j hj e => absurd ⟨j, hj, e⟩ c⟩
theorem als_2 {α : Type} (g : Nat → List α) (f h n : Nat) (hf : f < n) (hh : h < n) (hne : f ≠ h) : (als g n).Perm ((g f ++ g h) ++ als (msk (msk g f) h) n) := by
  have p1 := als_at g f n hf
  have p2 := als_at (msk g f) h n hh
  have e : msk g f h = g h := if_neg (Ne.symm hne)
  rw [e] at p2
  rw [List.append_assoc]
  exact p1.trans (p2.append_left _)
theorem als_2u {α β : Type} (G : β → List α) (w : Nat → β) (f h : Nat) (v : β) (n : Nat) (hf : f < n) (hh : h < n) (hne : f ≠ h) : (als (fun j => G (ups h v w j)) n).Perm ((G (w f) ++ G v) ++ als (msk (msk (fun j => G (w j)) f) h) n) := by
  have p := als_2 (fun j => G (ups h v w j)) f h n hf hh hne
  have e1 : G (ups h v w f) = G (w f) := by rw [ups_ne hne]
  have e2 : G (ups h v w h) = G v := by rw [ups_same]
  have e3 : msk (msk (fun j => G (ups h v w j)) f) h = msk (msk (fun j => G (w j)) f) h := msk_cong (fun i hi => by
    unfold msk
    by_cases e : i = f
    · rw [if_pos e, if_pos e]
    · rw [if_neg e, if_neg e]
      show G (ups h v w i) = G (w i)
      rw [ups_ne hi])
  rw [e3] at p
  simp only [e1, e2] at p
  exact p
theorem ho_F {F : (QF) → Prop} {o : oF} (ho : ∀ P : oF → Prop, P o → F (pF P)) (Q : QF) (h : Q o.1 o.2.1 o.2.2) : F Q := ho (fun o' => Q o'.1 o'.2.1 o'.2.2) h
theorem ho_A {F : (QA) → Prop} {o : oA} (ho : ∀ P : oA → Prop, P o → F (pA P)) (Q : QA) (h : Q o.1 o.2.1 o.2.2.1 o.2.2.2) : F Q := ho (fun o' => Q o'.1 o'.2.1 o'.2.2.1 o'.2.2.2) h
theorem ho_W {F : (QW4) → Prop} {o : oW} (ho : ∀ P : oW → Prop, P o → F (pW P)) (Q : QW4) (h : Q o.1 o.2.1 o.2.2.1 o.2.2.2) : F Q := ho (fun o' => Q o'.1 o'.2.1 o'.2.2.1 o'.2.2.2) h
theorem ho_G {F : (Int32 → AW → Prop) → Prop} {o : oG} (ho : ∀ P : oG → Prop, P o → F (pG P)) (Q : Int32 → AW → Prop) (h : Q o.1 o.2) : F Q := ho (fun o' => Q o'.1 o'.2) h
theorem ho_R {F : (QR) → Prop} {o : oR} (ho : ∀ P : oR → Prop, P o → F (pR P)) (Q : QR) (h : Q o.1 o.2.1 o.2.2.1 o.2.2.2) : F Q := ho (fun o' => Q o'.1 o'.2.1 o'.2.2.1 o'.2.2.2) h
theorem ho_T {F : (QT) → Prop} {o : oT} (ho : ∀ P : oT → Prop, P o → F (pT P)) (Q : QT) (h : Q o.1 o.2.1 o.2.2.1 o.2.2.2.1 o.2.2.2.2) : F Q := ho (fun o' => Q o'.1 o'.2.1 o'.2.2.1 o'.2.2.2.1 o'.2.2.2.2) h
theorem ho_K {F : (QK) → Prop} {o : oK} (ho : ∀ P : oK → Prop, P o → F (pK P)) (Q : QK) (h : Q o.1 o.2.1 o.2.2.1 o.2.2.2.1 o.2.2.2.2) : F Q := ho (fun o' => Q o'.1 o'.2.1 o'.2.2.1 o'.2.2.2.1 o'.2.2.2.2) h
