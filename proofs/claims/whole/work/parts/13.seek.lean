-- X2_imageOf
abbrev cl_X2_imageOf (T : Nat → ClassId) (o_p0 : Nat) (a_p0 : Nat → Nat) (s_p0_depth : Int32) (s_p0_tryCount : Int32) (s_p0_isSpent : Int32) (s_p0_isFound : Int32) (s_p0_images : Nat → Int32) : va_W := [vO o_p0 0 [.ref (a_p0 0), .ref (a_p0 1), .ref (a_p0 2), .int s_p0_depth, .int s_p0_tryCount, .int s_p0_isSpent, .int s_p0_isFound], vI T (a_p0 0) 45 s_p0_images]
abbrev r_X2_imageOf (E : vE) (T : Nat → ClassId) (o_p0 : Nat) (a_p0 : Nat → Nat) (s_p0_depth : Int32) (s_p0_tryCount : Int32) (s_p0_isSpent : Int32) (s_p0_isFound : Int32) (s_p0_images : Nat → Int32) (Q : Int64 → Prop) : Prop := vRl E cX2_imageOf (fun v (u : Unit) => Q v) (fun (u : Unit) => (cl_X2_imageOf T o_p0 a_p0 s_p0_depth s_p0_tryCount s_p0_isSpent s_p0_isFound s_p0_images))
def w_X2_imageOf_35 (x_1 : Int64) (x_3 : Int32) (x_4 : Int64) (x_6 : Int32) (s_p0_images : Nat → Int32) (K_6 : (Int64) → (Int32) → Prop) (Q : Int64 → Prop) : Prop := (K_6 x_4 (x_6 + (1 : Int32)))
def w_X2_imageOf_6s (x_1 : Int64) (x_3 : Int32) (s_p0_images : Nat → Int32) (Q : Int64 → Prop) (K_6 : (Int64) → (Int32) → Prop) (x_4 : Int64) (x_6 : Int32) : Prop := ((x_3 ≤ x_6 → (Q x_4)) ∧ (¬ x_3 ≤ x_6 → (w_X6_has x_1 x_6 (fun (r_15 : Int32) => ((r_15 = 0 → (w_X2_imageOf_35 x_1 x_3 x_4 x_6 s_p0_images K_6 Q)) ∧ (¬ r_15 = 0 → (vp_in x_6 45 ∧ (w_X2_imageOf_35 x_1 x_3 (x_4 ||| (vshl (1 : Int64) (s_p0_images (x_6).toNatClampNeg))) x_6 s_p0_images K_6 Q))))))))
def w_X2_imageOf_6 (x_1 : Int64) (x_3 : Int32) (s_p0_images : Nat → Int32) (Q : Int64 → Prop) : Nat → (Int64) → (Int32) → Prop
  | 0 => fun _ _ => False
  | n_ + 1 => w_X2_imageOf_6s x_1 x_3 s_p0_images Q (w_X2_imageOf_6 x_1 x_3 s_p0_images Q n_)
def w_X2_imageOf (x_1 : Int64) (x_3 : Int32) (s_p0_images : Nat → Int32) (Q : Int64 → Prop) : Prop := (∃ n_, w_X2_imageOf_6 x_1 x_3 s_p0_images Q n_ (0 : Int64) (0 : Int32))
-- X2_imageOf
theorem iX2_imageOf_X2 : ∀ w ∈ wsX20, w ∈ wsX2_imageOf := by decide +kernel
set_option maxHeartbeats 4000000 in
set_option maxRecDepth 100000 in
theorem k_X2_imageOf_35 {E : vE} {T : Nat → ClassId} {o_p0 : Nat} {a_p0 : Nat → Nat} {s_p0_depth : Int32} {s_p0_tryCount : Int32} {s_p0_isSpent : Int32} {s_p0_isFound : Int32} {s_p0_images : Nat → Int32} {x_1 : Int64} {x_3 : Int32} {x_4 : Int64} {x_6 : Int32} {K_6 : (Int64) → (Int32) → Prop} {Q : Int64 → Prop} (X : vX E cX2_imageOf 7 RX2 wsX2_imageOf (vT T) (vr 1 22)) (r : r_X2_imageOf E T o_p0 a_p0 s_p0_depth s_p0_tryCount s_p0_isSpent s_p0_isFound s_p0_images Q) (hK_6 : ∀ (x_4' : Int64) (x_6' : Int32), K_6 x_4' x_6' → V E 0 0 6 [(0, .ref o_p0), (1, .long x_1), (3, .int x_3), (4, .long x_4'), (6, .int x_6')] [] (cl_X2_imageOf T o_p0 a_p0 s_p0_depth s_p0_tryCount s_p0_isSpent s_p0_isFound s_p0_images)) (h : w_X2_imageOf_35 x_1 x_3 x_4 x_6 s_p0_images K_6 Q) : V E 0 0 35 [(0, .ref o_p0), (1, .long x_1), (3, .int x_3), (4, .long x_4), (6, .int x_6)] [] (cl_X2_imageOf T o_p0 a_p0 s_p0_depth s_p0_tryCount s_p0_isSpent s_p0_isFound s_p0_images) := by
  unfold w_X2_imageOf_35 at h
  refine v_iinc X (v := (x_6 + (1 : Int32))) (lv' := [(6, .int (x_6 + (1 : Int32))), (0, .ref o_p0), (1, .long x_1), (3, .int x_3), (4, .long x_4)]) 4 dX2_imageOf_35 rfl rfl (by decide) rfl ?_
  refine v_goto X (tgt := 6) dX2_imageOf_38 (by decide) ?_
  refine v_lv (lv' := [(0, .ref o_p0), (1, .long x_1), (3, .int x_3), (4, .long x_4), (6, .int (x_6 + (1 : Int32)))]) [1, 2, 3, 4, 0] rfl ?_
  exact hK_6 _ _ h
set_option maxHeartbeats 4000000 in
set_option maxRecDepth 100000 in
theorem k_X2_imageOf_6 {E : vE} {T : Nat → ClassId} {o_p0 : Nat} {a_p0 : Nat → Nat} {s_p0_depth : Int32} {s_p0_tryCount : Int32} {s_p0_isSpent : Int32} {s_p0_isFound : Int32} {s_p0_images : Nat → Int32} {x_1 : Int64} {x_3 : Int32} {Q : Int64 → Prop} (X : vX E cX2_imageOf 7 RX2 wsX2_imageOf (vT T) (vr 1 22)) (r : r_X2_imageOf E T o_p0 a_p0 s_p0_depth s_p0_tryCount s_p0_isSpent s_p0_isFound s_p0_images Q) : ∀ (n_ : Nat) (x_4 : Int64) (x_6 : Int32), w_X2_imageOf_6 x_1 x_3 s_p0_images Q n_ x_4 x_6 → V E 0 0 6 [(0, .ref o_p0), (1, .long x_1), (3, .int x_3), (4, .long x_4), (6, .int x_6)] [] (cl_X2_imageOf T o_p0 a_p0 s_p0_depth s_p0_tryCount s_p0_isSpent s_p0_isFound s_p0_images) := by
  intro n_
  induction n_ with
  | zero => intro x_4 x_6 h; exact h.elim
  | succ n_ hK_6 =>
    intro x_4 x_6 h
    replace h : w_X2_imageOf_6s x_1 x_3 s_p0_images Q (w_X2_imageOf_6 x_1 x_3 s_p0_images Q n_) x_4 x_6 := h
    unfold w_X2_imageOf_6s at h
    refine v_iload X 4 dX2_imageOf_6 rfl ?_
    refine v_iload_n X 2 dX2_imageOf_8 rfl rfl ?_
    refine v_icmp_ge X (tgt := 41) dX2_imageOf_9 (by decide) (fun c_9 => ?_) (fun c_9 => ?_)
    · replace h := h.1 c_9
      refine v_lload X 3 dX2_imageOf_41 rfl ?_
      exact r _ _ _ () _ dX2_imageOf_43 h rfl
    · replace h := h.2 c_9
      refine v_lload_n X 1 dX2_imageOf_12 rfl rfl ?_
      refine v_iload X 4 dX2_imageOf_13 rfl ?_
      refine v_callNi0 X (As := [.long x_1, .int x_6]) (rest := []) 2 (c_X6_has (l := vl E) (D := vD E) (T := T) (x_0 := x_1) (x_2 := x_6) h) gX2_imageOf_X6_has_n81 (List.mem_of_getElem? (i := 46) rfl) (List.mem_of_getElem? (i := 3) rfl) (List.mem_of_getElem? (i := 2) rfl) rfl rfl (by decide +kernel) ⟨Nat.zero_le _, Nat.zero_le _⟩ ⟨rfl, rfl, by decide, by decide⟩ (Nat.le_of_ble_eq_true rfl) rfl dX2_imageOf_15 (fun r_15 h => ?_)
      refine v_if_eq X (tgt := 35) dX2_imageOf_18 (by decide) (fun c_18 => ?_) (fun c_18 => ?_)
      · replace h := h.1 c_18
        exact k_X2_imageOf_35 X r hK_6 h
      · replace h := h.2 c_18
        refine v_lload X 3 dX2_imageOf_21 rfl ?_
        refine v_lconst X dX2_imageOf_23 (v := (1 : Int64)) (by decide) ?_
        refine v_aload_n X 0 dX2_imageOf_24 rfl rfl ?_
        refine v_get X 0 0 (F := TX2) (N := 7) iX2_imageOf_X2 rfl rfl (by decide) (List.mem_of_getElem? (i := 1) rfl) rfl rfl dX2_imageOf_25 ?_
        refine v_iload X 4 dX2_imageOf_28 rfl ?_
        refine v_iald X 1 0 rfl rfl h.1 dX2_imageOf_30 ?_
        replace h := h.2
        refine v_lshl X dX2_imageOf_31 ?_
        refine v_lor X dX2_imageOf_32 ?_
        refine v_lstore X (lv' := [(4, .long (x_4 ||| (vshl (1 : Int64) (s_p0_images (x_6).toNatClampNeg)))), (0, .ref o_p0), (1, .long x_1), (3, .int x_3), (6, .int x_6)]) dX2_imageOf_33 (by decide) rfl ?_
        refine v_lv (lv' := [(0, .ref o_p0), (1, .long x_1), (3, .int x_3), (4, .long (x_4 ||| (vshl (1 : Int64) (s_p0_images (x_6).toNatClampNeg)))), (6, .int x_6)]) [1, 2, 3, 0, 4] rfl ?_
        exact k_X2_imageOf_35 X r hK_6 h
set_option maxHeartbeats 4000000 in
set_option maxRecDepth 100000 in
theorem c_X2_imageOf {l : Launch} {D : va_G} {T : Nat → ClassId} {o_p0 : Nat} {a_p0 : Nat → Nat} {s_p0_depth : Int32} {s_p0_tryCount : Int32} {s_p0_isSpent : Int32} {s_p0_isFound : Int32} {s_p0_images : Nat → Int32} {x_1 : Int64} {x_3 : Int32} {Q : Int64 → Prop} (h : w_X2_imageOf x_1 x_3 s_p0_images Q) : vCl l D (vT T) yX2_imageOf wsX2_imageOf (vr 1 22) [.ref o_p0, .long x_1, .int x_3] (cl_X2_imageOf T o_p0 a_p0 s_p0_depth s_p0_tryCount s_p0_isSpent s_p0_isFound s_p0_images) (fun v (u : Unit) => Q v) (fun (u : Unit) => (cl_X2_imageOf T o_p0 a_p0 s_p0_depth s_p0_tryCount s_p0_isSpent s_p0_isFound s_p0_images)) := by
  refine vC_l (cc := cX2_imageOf) (nL := 7) (by decide +kernel) rfl ⟨rfl, rfl⟩ (Nat.le_of_ble_eq_true rfl) rfl ?_
  intro E el eD X r
  unfold w_X2_imageOf at h
  refine v_lconst X dX2_imageOf_0 (v := (0 : Int64)) (by decide) ?_
  refine v_lstore X (lv' := [(4, .long (0 : Int64)), (0, .ref o_p0), (1, .long x_1), (3, .int x_3)]) dX2_imageOf_1 (by decide) rfl ?_
  refine v_iconst X dX2_imageOf_3 (v := (0 : Int32)) (by decide) ?_
  refine v_istore X (lv' := [(6, .int (0 : Int32)), (4, .long (0 : Int64)), (0, .ref o_p0), (1, .long x_1), (3, .int x_3)]) dX2_imageOf_4 (by decide) rfl ?_
  refine v_lv (lv' := [(0, .ref o_p0), (1, .long x_1), (3, .int x_3), (4, .long (0 : Int64)), (6, .int (0 : Int32))]) [2, 3, 4, 1, 0] rfl ?_
  obtain ⟨n_, h⟩ := h
  exact k_X2_imageOf_6 X r n_ _ _ h
-- X2_lineWith
abbrev cl_X2_lineWith (T : Nat → ClassId) (o_p0 : Nat) (a_p0 : Nat → Nat) (s_p0_there : Int32) (s_p0_kind : Int32) (s_p0_tag : Int32) (s_p0_size : Int32) (s_p0_lineCount : Int32) (s_p0_sets : Nat → Int64) : va_W := [vO o_p0 2 [.ref (a_p0 0), .ref (a_p0 1), .ref (a_p0 2), .int s_p0_there, .int s_p0_kind, .int s_p0_tag, .int s_p0_size, .int s_p0_lineCount], vJ T (a_p0 0) 45 s_p0_sets]
abbrev r_X2_lineWith (E : vE) (T : Nat → ClassId) (o_p0 : Nat) (a_p0 : Nat → Nat) (s_p0_there : Int32) (s_p0_kind : Int32) (s_p0_tag : Int32) (s_p0_size : Int32) (s_p0_lineCount : Int32) (s_p0_sets : Nat → Int64) (Q : Int32 → Prop) : Prop := vRi E cX2_lineWith (fun v (u : Unit) => Q v) (fun (u : Unit) => (cl_X2_lineWith T o_p0 a_p0 s_p0_there s_p0_kind s_p0_tag s_p0_size s_p0_lineCount s_p0_sets))
def w_X2_lineWith_36 (x_1 : Int64) (x_3 : Int64) (x_5 : Int32) (s_p0_lineCount : Int32) (s_p0_sets : Nat → Int64) (K_3 : (Int32) → Prop) (Q : Int32 → Prop) : Prop := (K_3 (x_5 + (1 : Int32)))
def w_X2_lineWith_3s (x_1 : Int64) (x_3 : Int64) (s_p0_lineCount : Int32) (s_p0_sets : Nat → Int64) (Q : Int32 → Prop) (K_3 : (Int32) → Prop) (x_5 : Int32) : Prop := ((s_p0_lineCount ≤ x_5 → (Q (-9 : Int32))) ∧ (¬ s_p0_lineCount ≤ x_5 → (w_X6_has x_3 x_5 (fun (r_15 : Int32) => ((r_15 = 0 → (w_X2_lineWith_36 x_1 x_3 x_5 s_p0_lineCount s_p0_sets K_3 Q)) ∧ (¬ r_15 = 0 → (vp_in x_5 45 ∧ ((¬ (lg_cmp (s_p0_sets (x_5).toNatClampNeg) x_1) = 0 → (w_X2_lineWith_36 x_1 x_3 x_5 s_p0_lineCount s_p0_sets K_3 Q)) ∧ ((lg_cmp (s_p0_sets (x_5).toNatClampNeg) x_1) = 0 → (Q x_5))))))))))
def w_X2_lineWith_3 (x_1 : Int64) (x_3 : Int64) (s_p0_lineCount : Int32) (s_p0_sets : Nat → Int64) (Q : Int32 → Prop) : Nat → (Int32) → Prop
  | 0 => fun _ => False
  | n_ + 1 => w_X2_lineWith_3s x_1 x_3 s_p0_lineCount s_p0_sets Q (w_X2_lineWith_3 x_1 x_3 s_p0_lineCount s_p0_sets Q n_)
def w_X2_lineWith (x_1 : Int64) (x_3 : Int64) (s_p0_lineCount : Int32) (s_p0_sets : Nat → Int64) (Q : Int32 → Prop) : Prop := (∃ n_, w_X2_lineWith_3 x_1 x_3 s_p0_lineCount s_p0_sets Q n_ (0 : Int32))
-- X2_lineWith
theorem iX2_lineWith_X5 : ∀ w ∈ wsX50, w ∈ wsX2_lineWith := by decide +kernel
set_option maxHeartbeats 4000000 in
set_option maxRecDepth 100000 in
theorem k_X2_lineWith_36 {E : vE} {T : Nat → ClassId} {o_p0 : Nat} {a_p0 : Nat → Nat} {s_p0_there : Int32} {s_p0_kind : Int32} {s_p0_tag : Int32} {s_p0_size : Int32} {s_p0_lineCount : Int32} {s_p0_sets : Nat → Int64} {x_1 : Int64} {x_3 : Int64} {x_5 : Int32} {K_3 : (Int32) → Prop} {Q : Int32 → Prop} (X : vX E cX2_lineWith 6 RX2 wsX2_lineWith (vT T) (vr 1 22)) (r : r_X2_lineWith E T o_p0 a_p0 s_p0_there s_p0_kind s_p0_tag s_p0_size s_p0_lineCount s_p0_sets Q) (hK_3 : ∀ (x_5' : Int32), K_3 x_5' → V E 0 0 3 [(0, .ref o_p0), (1, .long x_1), (3, .long x_3), (5, .int x_5')] [] (cl_X2_lineWith T o_p0 a_p0 s_p0_there s_p0_kind s_p0_tag s_p0_size s_p0_lineCount s_p0_sets)) (h : w_X2_lineWith_36 x_1 x_3 x_5 s_p0_lineCount s_p0_sets K_3 Q) : V E 0 0 36 [(0, .ref o_p0), (1, .long x_1), (3, .long x_3), (5, .int x_5)] [] (cl_X2_lineWith T o_p0 a_p0 s_p0_there s_p0_kind s_p0_tag s_p0_size s_p0_lineCount s_p0_sets) := by
  unfold w_X2_lineWith_36 at h
  refine v_iinc X (v := (x_5 + (1 : Int32))) (lv' := [(5, .int (x_5 + (1 : Int32))), (0, .ref o_p0), (1, .long x_1), (3, .long x_3)]) 3 dX2_lineWith_36 rfl rfl (by decide) rfl ?_
  refine v_goto X (tgt := 3) dX2_lineWith_39 (by decide) ?_
  refine v_lv (lv' := [(0, .ref o_p0), (1, .long x_1), (3, .long x_3), (5, .int (x_5 + (1 : Int32)))]) [1, 2, 3, 0] rfl ?_
  exact hK_3 _ h
set_option maxHeartbeats 4000000 in
set_option maxRecDepth 100000 in
theorem k_X2_lineWith_3 {E : vE} {T : Nat → ClassId} {o_p0 : Nat} {a_p0 : Nat → Nat} {s_p0_there : Int32} {s_p0_kind : Int32} {s_p0_tag : Int32} {s_p0_size : Int32} {s_p0_lineCount : Int32} {s_p0_sets : Nat → Int64} {x_1 : Int64} {x_3 : Int64} {Q : Int32 → Prop} (X : vX E cX2_lineWith 6 RX2 wsX2_lineWith (vT T) (vr 1 22)) (r : r_X2_lineWith E T o_p0 a_p0 s_p0_there s_p0_kind s_p0_tag s_p0_size s_p0_lineCount s_p0_sets Q) : ∀ (n_ : Nat) (x_5 : Int32), w_X2_lineWith_3 x_1 x_3 s_p0_lineCount s_p0_sets Q n_ x_5 → V E 0 0 3 [(0, .ref o_p0), (1, .long x_1), (3, .long x_3), (5, .int x_5)] [] (cl_X2_lineWith T o_p0 a_p0 s_p0_there s_p0_kind s_p0_tag s_p0_size s_p0_lineCount s_p0_sets) := by
  intro n_
  induction n_ with
  | zero => intro x_5 h; exact h.elim
  | succ n_ hK_3 =>
    intro x_5 h
    replace h : w_X2_lineWith_3s x_1 x_3 s_p0_lineCount s_p0_sets Q (w_X2_lineWith_3 x_1 x_3 s_p0_lineCount s_p0_sets Q n_) x_5 := h
    unfold w_X2_lineWith_3s at h
    refine v_iload X 3 dX2_lineWith_3 rfl ?_
    refine v_aload_n X 0 dX2_lineWith_5 rfl rfl ?_
    refine v_getN X 0 7 (F := TX5) (N := 8) iX2_lineWith_X5 rfl rfl (by decide) (List.mem_of_getElem? (i := 32) rfl) rfl rfl dX2_lineWith_6 ?_
    refine v_icmp_ge X (tgt := 42) dX2_lineWith_9 (by decide) (fun c_9 => ?_) (fun c_9 => ?_)
    · replace h := h.1 c_9
      refine v_bipush X dX2_lineWith_42 (v := (-9 : Int32)) (by decide) ?_
      exact r _ _ _ () _ dX2_lineWith_44 h rfl
    · replace h := h.2 c_9
      refine v_lload_n X 2 dX2_lineWith_12 rfl rfl ?_
      refine v_iload X 3 dX2_lineWith_13 rfl ?_
      refine v_callNi0 X (As := [.long x_3, .int x_5]) (rest := []) 2 (c_X6_has (l := vl E) (D := vD E) (T := T) (x_0 := x_3) (x_2 := x_5) h) gX2_lineWith_X6_has_n81 (List.mem_of_getElem? (i := 46) rfl) (List.mem_of_getElem? (i := 2) rfl) (List.mem_of_getElem? (i := 1) rfl) rfl rfl (by decide +kernel) ⟨Nat.zero_le _, Nat.zero_le _⟩ ⟨rfl, rfl, by decide, by decide⟩ (Nat.le_of_ble_eq_true rfl) rfl dX2_lineWith_15 (fun r_15 h => ?_)
      refine v_if_eq X (tgt := 36) dX2_lineWith_18 (by decide) (fun c_18 => ?_) (fun c_18 => ?_)
      · replace h := h.1 c_18
        exact k_X2_lineWith_36 X r hK_3 h
      · replace h := h.2 c_18
        refine v_aload_n X 0 dX2_lineWith_21 rfl rfl ?_
        refine v_getN X 0 0 (F := TX5) (N := 8) iX2_lineWith_X5 rfl rfl (by decide) (List.mem_of_getElem? (i := 13) rfl) rfl rfl dX2_lineWith_22 ?_
        refine v_iload X 3 dX2_lineWith_25 rfl ?_
        refine v_lald X 1 1 rfl rfl h.1 dX2_lineWith_27 ?_
        replace h := h.2
        refine v_lload_n X 1 dX2_lineWith_28 rfl rfl ?_
        refine v_lcmp X dX2_lineWith_29 ?_
        refine v_if_ne X (tgt := 36) dX2_lineWith_30 (by decide) (fun c_30 => ?_) (fun c_30 => ?_)
        · replace h := h.1 c_30
          exact k_X2_lineWith_36 X r hK_3 h
        · replace h := h.2 c_30
          refine v_iload X 3 dX2_lineWith_33 rfl ?_
          exact r _ _ _ () _ dX2_lineWith_35 h rfl
set_option maxHeartbeats 4000000 in
set_option maxRecDepth 100000 in
theorem c_X2_lineWith {l : Launch} {D : va_G} {T : Nat → ClassId} {o_p0 : Nat} {a_p0 : Nat → Nat} {s_p0_there : Int32} {s_p0_kind : Int32} {s_p0_tag : Int32} {s_p0_size : Int32} {s_p0_lineCount : Int32} {s_p0_sets : Nat → Int64} {x_1 : Int64} {x_3 : Int64} {Q : Int32 → Prop} (h : w_X2_lineWith x_1 x_3 s_p0_lineCount s_p0_sets Q) : vCi l D (vT T) yX2_lineWith wsX2_lineWith (vr 1 22) [.ref o_p0, .long x_1, .long x_3] (cl_X2_lineWith T o_p0 a_p0 s_p0_there s_p0_kind s_p0_tag s_p0_size s_p0_lineCount s_p0_sets) (fun v (u : Unit) => Q v) (fun (u : Unit) => (cl_X2_lineWith T o_p0 a_p0 s_p0_there s_p0_kind s_p0_tag s_p0_size s_p0_lineCount s_p0_sets)) := by
  refine vC_i (cc := cX2_lineWith) (nL := 6) (by decide +kernel) rfl ⟨rfl, rfl⟩ (Nat.le_of_ble_eq_true rfl) rfl ?_
  intro E el eD X r
  unfold w_X2_lineWith at h
  refine v_iconst X dX2_lineWith_0 (v := (0 : Int32)) (by decide) ?_
  refine v_istore X (lv' := [(5, .int (0 : Int32)), (0, .ref o_p0), (1, .long x_1), (3, .long x_3)]) dX2_lineWith_1 (by decide) rfl ?_
  refine v_lv (lv' := [(0, .ref o_p0), (1, .long x_1), (3, .long x_3), (5, .int (0 : Int32))]) [1, 2, 3, 0] rfl ?_
  obtain ⟨n_, h⟩ := h
  exact k_X2_lineWith_3 X r n_ _ h
-- X2_linesFit
abbrev cl_X2_linesFit (T : Nat → ClassId) (o_p0 : Nat) (a_p0 : Nat → Nat) (o_p1 : Nat) (a_p1 : Nat → Nat) (o_p2 : Nat) (a_p2 : Nat → Nat) (s_p0_depth : Int32) (s_p0_tryCount : Int32) (s_p0_isSpent : Int32) (s_p0_isFound : Int32) (s_p0_images : Nat → Int32) (s_p1_there : Int32) (s_p1_kind : Int32) (s_p1_tag : Int32) (s_p1_size : Int32) (s_p1_lineCount : Int32) (s_p1_sets : Nat → Int64) (s_p2_there : Int32) (s_p2_kind : Int32) (s_p2_tag : Int32) (s_p2_size : Int32) (s_p2_lineCount : Int32) (s_p2_sets : Nat → Int64) : va_W := [vO o_p0 0 [.ref (a_p0 0), .ref (a_p0 1), .ref (a_p0 2), .int s_p0_depth, .int s_p0_tryCount, .int s_p0_isSpent, .int s_p0_isFound], vI T (a_p0 0) 45 s_p0_images, vO o_p1 2 [.ref (a_p1 0), .ref (a_p1 1), .ref (a_p1 2), .int s_p1_there, .int s_p1_kind, .int s_p1_tag, .int s_p1_size, .int s_p1_lineCount], vJ T (a_p1 0) 45 s_p1_sets, vO o_p2 2 [.ref (a_p2 0), .ref (a_p2 1), .ref (a_p2 2), .int s_p2_there, .int s_p2_kind, .int s_p2_tag, .int s_p2_size, .int s_p2_lineCount], vJ T (a_p2 0) 45 s_p2_sets]
abbrev r_X2_linesFit (E : vE) (T : Nat → ClassId) (o_p0 : Nat) (a_p0 : Nat → Nat) (o_p1 : Nat) (a_p1 : Nat → Nat) (o_p2 : Nat) (a_p2 : Nat → Nat) (s_p0_depth : Int32) (s_p0_tryCount : Int32) (s_p0_isSpent : Int32) (s_p0_isFound : Int32) (s_p0_images : Nat → Int32) (s_p1_there : Int32) (s_p1_kind : Int32) (s_p1_tag : Int32) (s_p1_size : Int32) (s_p1_lineCount : Int32) (s_p1_sets : Nat → Int64) (s_p2_there : Int32) (s_p2_kind : Int32) (s_p2_tag : Int32) (s_p2_size : Int32) (s_p2_lineCount : Int32) (s_p2_sets : Nat → Int64) (Q : Int32 → Prop) : Prop := vRz E cX2_linesFit (fun v (u : Unit) => Q v) (fun (u : Unit) => (cl_X2_linesFit T o_p0 a_p0 o_p1 a_p1 o_p2 a_p2 s_p0_depth s_p0_tryCount s_p0_isSpent s_p0_isFound s_p0_images s_p1_there s_p1_kind s_p1_tag s_p1_size s_p1_lineCount s_p1_sets s_p2_there s_p2_kind s_p2_tag s_p2_size s_p2_lineCount s_p2_sets))
def w_X2_linesFit_11s (s_p0_images : Nat → Int32) (s_p1_size : Int32) (s_p1_lineCount : Int32) (s_p1_sets : Nat → Int64) (s_p2_lineCount : Int32) (s_p2_sets : Nat → Int64) (Q : Int32 → Prop) (K_11 : (Int64) → (Int32) → Prop) (x_3 : Int64) (x_5 : Int32) : Prop := ((s_p1_lineCount ≤ x_5 → (vz (1 : Int32) ∧ Q (1 : Int32))) ∧ (¬ s_p1_lineCount ≤ x_5 → (vp_in x_5 45 ∧ (w_X2_imageOf (s_p1_sets (x_5).toNatClampNeg) s_p1_size s_p0_images (fun (r_33 : Int64) => (w_X2_lineWith r_33 x_3 s_p2_lineCount s_p2_sets (fun (r_37 : Int32) => ((¬ r_37 = (-9 : Int32) → (K_11 (x_3 &&& ((vshl (1 : Int64) r_37) ^^^ (-1 : Int64))) (x_5 + (1 : Int32)))) ∧ (r_37 = (-9 : Int32) → (vz (0 : Int32) ∧ Q (0 : Int32)))))))))))
def w_X2_linesFit_11 (s_p0_images : Nat → Int32) (s_p1_size : Int32) (s_p1_lineCount : Int32) (s_p1_sets : Nat → Int64) (s_p2_lineCount : Int32) (s_p2_sets : Nat → Int64) (Q : Int32 → Prop) : Nat → (Int64) → (Int32) → Prop
  | 0 => fun _ _ => False
  | n_ + 1 => w_X2_linesFit_11s s_p0_images s_p1_size s_p1_lineCount s_p1_sets s_p2_lineCount s_p2_sets Q (w_X2_linesFit_11 s_p0_images s_p1_size s_p1_lineCount s_p1_sets s_p2_lineCount s_p2_sets Q n_)
def w_X2_linesFit (s_p0_images : Nat → Int32) (s_p1_size : Int32) (s_p1_lineCount : Int32) (s_p1_sets : Nat → Int64) (s_p2_lineCount : Int32) (s_p2_sets : Nat → Int64) (Q : Int32 → Prop) : Prop := (w_X6_below s_p2_lineCount (fun (r_4 : Int64) => (∃ n_, w_X2_linesFit_11 s_p0_images s_p1_size s_p1_lineCount s_p1_sets s_p2_lineCount s_p2_sets Q n_ r_4 (0 : Int32))))
-- X2_linesFit
theorem iX2_linesFit_X5 : ∀ w ∈ wsX50, w ∈ wsX2_linesFit := by decide +kernel
set_option maxHeartbeats 4000000 in
set_option maxRecDepth 100000 in
theorem k_X2_linesFit_11 {E : vE} {T : Nat → ClassId} {o_p0 : Nat} {a_p0 : Nat → Nat} {o_p1 : Nat} {a_p1 : Nat → Nat} {o_p2 : Nat} {a_p2 : Nat → Nat} {s_p0_depth : Int32} {s_p0_tryCount : Int32} {s_p0_isSpent : Int32} {s_p0_isFound : Int32} {s_p0_images : Nat → Int32} {s_p1_there : Int32} {s_p1_kind : Int32} {s_p1_tag : Int32} {s_p1_size : Int32} {s_p1_lineCount : Int32} {s_p1_sets : Nat → Int64} {s_p2_there : Int32} {s_p2_kind : Int32} {s_p2_tag : Int32} {s_p2_size : Int32} {s_p2_lineCount : Int32} {s_p2_sets : Nat → Int64} {Q : Int32 → Prop} (X : vX E cX2_linesFit 7 RX2 wsX2_linesFit (vT T) (vr 2 48)) (r : r_X2_linesFit E T o_p0 a_p0 o_p1 a_p1 o_p2 a_p2 s_p0_depth s_p0_tryCount s_p0_isSpent s_p0_isFound s_p0_images s_p1_there s_p1_kind s_p1_tag s_p1_size s_p1_lineCount s_p1_sets s_p2_there s_p2_kind s_p2_tag s_p2_size s_p2_lineCount s_p2_sets Q) : ∀ (n_ : Nat) (x_3 : Int64) (x_5 : Int32), w_X2_linesFit_11 s_p0_images s_p1_size s_p1_lineCount s_p1_sets s_p2_lineCount s_p2_sets Q n_ x_3 x_5 → V E 0 0 11 [(0, .ref o_p0), (1, .ref o_p1), (2, .ref o_p2), (3, .long x_3), (5, .int x_5)] [] (cl_X2_linesFit T o_p0 a_p0 o_p1 a_p1 o_p2 a_p2 s_p0_depth s_p0_tryCount s_p0_isSpent s_p0_isFound s_p0_images s_p1_there s_p1_kind s_p1_tag s_p1_size s_p1_lineCount s_p1_sets s_p2_there s_p2_kind s_p2_tag s_p2_size s_p2_lineCount s_p2_sets) := by
  intro n_
  induction n_ with
  | zero => intro x_3 x_5 h; exact h.elim
  | succ n_ hK_11 =>
    intro x_3 x_5 h
    replace h : w_X2_linesFit_11s s_p0_images s_p1_size s_p1_lineCount s_p1_sets s_p2_lineCount s_p2_sets Q (w_X2_linesFit_11 s_p0_images s_p1_size s_p1_lineCount s_p1_sets s_p2_lineCount s_p2_sets Q n_) x_3 x_5 := h
    unfold w_X2_linesFit_11s at h
    refine v_iload X 4 dX2_linesFit_11 rfl ?_
    refine v_aload_n X 1 dX2_linesFit_13 rfl rfl ?_
    refine v_getN X 2 7 (F := TX5) (N := 8) iX2_linesFit_X5 rfl rfl (by decide) (List.mem_of_getElem? (i := 32) rfl) rfl rfl dX2_linesFit_14 ?_
    refine v_icmp_ge X (tgt := 68) dX2_linesFit_17 (by decide) (fun c_17 => ?_) (fun c_17 => ?_)
    · replace h := h.1 c_17
      refine v_iconst X dX2_linesFit_68 (v := (1 : Int32)) (by decide) ?_
      exact r _ _ _ () _ dX2_linesFit_69 h.1 h.2 rfl
    · replace h := h.2 c_17
      refine v_aload_n X 2 dX2_linesFit_20 rfl rfl ?_
      refine v_aload_n X 0 dX2_linesFit_21 rfl rfl ?_
      refine v_aload_n X 1 dX2_linesFit_22 rfl rfl ?_
      refine v_getN X 2 0 (F := TX5) (N := 8) iX2_linesFit_X5 rfl rfl (by decide) (List.mem_of_getElem? (i := 13) rfl) rfl rfl dX2_linesFit_23 ?_
      refine v_iload X 4 dX2_linesFit_26 rfl ?_
      refine v_lald X 3 1 rfl rfl h.1 dX2_linesFit_28 ?_
      replace h := h.2
      refine v_aload_n X 1 dX2_linesFit_29 rfl rfl ?_
      refine v_getN X 2 6 (F := TX5) (N := 8) iX2_linesFit_X5 rfl rfl (by decide) (List.mem_of_getElem? (i := 27) rfl) rfl rfl dX2_linesFit_30 ?_
      refine v_callVl X (As := [.long (s_p1_sets (x_5).toNatClampNeg), .int s_p1_size]) (rest := [.ref o_p2]) 2 0 (c_X2_imageOf (l := vl E) (D := vD E) (T := T) (o_p0 := o_p0) (a_p0 := a_p0) (s_p0_depth := s_p0_depth) (s_p0_tryCount := s_p0_tryCount) (s_p0_isSpent := s_p0_isSpent) (s_p0_isFound := s_p0_isFound) (s_p0_images := s_p0_images) (x_1 := (s_p1_sets (x_5).toNatClampNeg)) (x_3 := s_p1_size) h) gX2_linesFit_X2_imageOf rfl rfl (by decide +kernel) ⟨Nat.zero_le _, Nat.zero_le _⟩ ⟨rfl, rfl, by decide, by decide⟩ (Nat.le_of_ble_eq_true rfl) rfl rfl (wr := [vO o_p1 2 [.ref (a_p1 0), .ref (a_p1 1), .ref (a_p1 2), .int s_p1_there, .int s_p1_kind, .int s_p1_tag, .int s_p1_size, .int s_p1_lineCount], vJ T (a_p1 0) 45 s_p1_sets, vO o_p2 2 [.ref (a_p2 0), .ref (a_p2 1), .ref (a_p2 2), .int s_p2_there, .int s_p2_kind, .int s_p2_tag, .int s_p2_size, .int s_p2_lineCount], vJ T (a_p2 0) 45 s_p2_sets]) [0, 1] [2, 3, 4, 5] rfl rfl rfl rfl (by decide) rfl dX2_linesFit_33 (fun r_33 u h => ?_)
      refine v_ws (ws' := (cl_X2_linesFit T o_p0 a_p0 o_p1 a_p1 o_p2 a_p2 s_p0_depth s_p0_tryCount s_p0_isSpent s_p0_isFound s_p0_images s_p1_there s_p1_kind s_p1_tag s_p1_size s_p1_lineCount s_p1_sets s_p2_there s_p2_kind s_p2_tag s_p2_size s_p2_lineCount s_p2_sets)) [4, 5, 0, 1, 2, 3] rfl rfl ?_
      refine v_lload_n X 3 dX2_linesFit_36 rfl rfl ?_
      refine v_callSi X (As := [.ref o_p2, .long r_33, .long x_3]) (rest := []) 3 (c_X2_lineWith (l := vl E) (D := vD E) (T := T) (o_p0 := o_p2) (a_p0 := a_p2) (s_p0_there := s_p2_there) (s_p0_kind := s_p2_kind) (s_p0_tag := s_p2_tag) (s_p0_size := s_p2_size) (s_p0_lineCount := s_p2_lineCount) (s_p0_sets := s_p2_sets) (x_1 := r_33) (x_3 := x_3) h) gX2_linesFit_X2_lineWith rfl rfl (by decide +kernel) ⟨Nat.zero_le _, Nat.zero_le _⟩ ⟨rfl, rfl, by decide, by decide⟩ (Nat.le_of_ble_eq_true rfl) (wr := [vO o_p0 0 [.ref (a_p0 0), .ref (a_p0 1), .ref (a_p0 2), .int s_p0_depth, .int s_p0_tryCount, .int s_p0_isSpent, .int s_p0_isFound], vI T (a_p0 0) 45 s_p0_images, vO o_p1 2 [.ref (a_p1 0), .ref (a_p1 1), .ref (a_p1 2), .int s_p1_there, .int s_p1_kind, .int s_p1_tag, .int s_p1_size, .int s_p1_lineCount], vJ T (a_p1 0) 45 s_p1_sets]) [4, 5] [0, 1, 2, 3] rfl rfl rfl rfl (by decide) rfl dX2_linesFit_37 (fun r_37 u h => ?_)
      refine v_ws (ws' := (cl_X2_linesFit T o_p0 a_p0 o_p1 a_p1 o_p2 a_p2 s_p0_depth s_p0_tryCount s_p0_isSpent s_p0_isFound s_p0_images s_p1_there s_p1_kind s_p1_tag s_p1_size s_p1_lineCount s_p1_sets s_p2_there s_p2_kind s_p2_tag s_p2_size s_p2_lineCount s_p2_sets)) [0, 1, 2, 3, 4, 5] rfl rfl ?_
      refine v_istore X (lv' := [(6, .int r_37), (0, .ref o_p0), (1, .ref o_p1), (2, .ref o_p2), (3, .long x_3), (5, .int x_5)]) dX2_linesFit_40 (by decide) rfl ?_
      refine v_iload X 0 dX2_linesFit_42 rfl ?_
      refine v_bipush X dX2_linesFit_44 (v := (-9 : Int32)) (by decide) ?_
      refine v_icmp_ne X (tgt := 51) dX2_linesFit_46 (by decide) (fun c_46 => ?_) (fun c_46 => ?_)
      · replace h := h.1 c_46
        refine v_lload_n X 4 dX2_linesFit_51 rfl rfl ?_
        refine v_lconst X dX2_linesFit_52 (v := (1 : Int64)) (by decide) ?_
        refine v_iload X 0 dX2_linesFit_53 rfl ?_
        refine v_lshl X dX2_linesFit_55 ?_
        refine v_ldc2 X (v := (-1 : Int64)) (List.mem_of_getElem? (i := 1) rfl) dX2_linesFit_56 ?_
        refine v_lxor X dX2_linesFit_59 ?_
        refine v_land X dX2_linesFit_60 ?_
        refine v_lstore_n X (lv' := [(3, .long (x_3 &&& ((vshl (1 : Int64) r_37) ^^^ (-1 : Int64)))), (6, .int r_37), (0, .ref o_p0), (1, .ref o_p1), (2, .ref o_p2), (5, .int x_5)]) dX2_linesFit_61 rfl (by decide) rfl ?_
        refine v_iinc X (v := (x_5 + (1 : Int32))) (lv' := [(5, .int (x_5 + (1 : Int32))), (3, .long (x_3 &&& ((vshl (1 : Int64) r_37) ^^^ (-1 : Int64)))), (6, .int r_37), (0, .ref o_p0), (1, .ref o_p1), (2, .ref o_p2)]) 5 dX2_linesFit_62 rfl rfl (by decide) rfl ?_
        refine v_goto X (tgt := 11) dX2_linesFit_65 (by decide) ?_
        refine v_lv (lv' := [(0, .ref o_p0), (1, .ref o_p1), (2, .ref o_p2), (3, .long (x_3 &&& ((vshl (1 : Int64) r_37) ^^^ (-1 : Int64)))), (5, .int (x_5 + (1 : Int32)))]) [3, 4, 5, 1, 0] rfl ?_
        exact hK_11 _ _ h
      · replace h := h.2 c_46
        refine v_iconst X dX2_linesFit_49 (v := (0 : Int32)) (by decide) ?_
        exact r _ _ _ () _ dX2_linesFit_50 h.1 h.2 rfl
set_option maxHeartbeats 4000000 in
set_option maxRecDepth 100000 in
theorem c_X2_linesFit {l : Launch} {D : va_G} {T : Nat → ClassId} {o_p0 : Nat} {a_p0 : Nat → Nat} {o_p1 : Nat} {a_p1 : Nat → Nat} {o_p2 : Nat} {a_p2 : Nat → Nat} {s_p0_depth : Int32} {s_p0_tryCount : Int32} {s_p0_isSpent : Int32} {s_p0_isFound : Int32} {s_p0_images : Nat → Int32} {s_p1_there : Int32} {s_p1_kind : Int32} {s_p1_tag : Int32} {s_p1_size : Int32} {s_p1_lineCount : Int32} {s_p1_sets : Nat → Int64} {s_p2_there : Int32} {s_p2_kind : Int32} {s_p2_tag : Int32} {s_p2_size : Int32} {s_p2_lineCount : Int32} {s_p2_sets : Nat → Int64} {Q : Int32 → Prop} (h : w_X2_linesFit s_p0_images s_p1_size s_p1_lineCount s_p1_sets s_p2_lineCount s_p2_sets Q) : vCi l D (vT T) yX2_linesFit wsX2_linesFit (vr 2 48) [.ref o_p0, .ref o_p1, .ref o_p2] (cl_X2_linesFit T o_p0 a_p0 o_p1 a_p1 o_p2 a_p2 s_p0_depth s_p0_tryCount s_p0_isSpent s_p0_isFound s_p0_images s_p1_there s_p1_kind s_p1_tag s_p1_size s_p1_lineCount s_p1_sets s_p2_there s_p2_kind s_p2_tag s_p2_size s_p2_lineCount s_p2_sets) (fun v (u : Unit) => Q v) (fun (u : Unit) => (cl_X2_linesFit T o_p0 a_p0 o_p1 a_p1 o_p2 a_p2 s_p0_depth s_p0_tryCount s_p0_isSpent s_p0_isFound s_p0_images s_p1_there s_p1_kind s_p1_tag s_p1_size s_p1_lineCount s_p1_sets s_p2_there s_p2_kind s_p2_tag s_p2_size s_p2_lineCount s_p2_sets)) := by
  refine vC_z (cc := cX2_linesFit) (nL := 7) (by decide +kernel) rfl ⟨rfl, rfl⟩ (Nat.le_of_ble_eq_true rfl) rfl ?_
  intro E el eD X r
  unfold w_X2_linesFit at h
  refine v_aload_n X 2 dX2_linesFit_0 rfl rfl ?_
  refine v_getN X 4 7 (F := TX5) (N := 8) iX2_linesFit_X5 rfl rfl (by decide) (List.mem_of_getElem? (i := 32) rfl) rfl rfl dX2_linesFit_1 ?_
  refine v_callNl0 X (As := [.int s_p2_lineCount]) (rest := []) 1 (c_X6_below (l := vl E) (D := vD E) (T := T) (x_0 := s_p2_lineCount) h) gX2_linesFit_X6_below_n65 (List.mem_of_getElem? (i := 45) rfl) (List.mem_of_getElem? (i := 3) rfl) (List.mem_of_getElem? (i := 2) rfl) rfl rfl (by decide +kernel) ⟨Nat.zero_le _, Nat.zero_le _⟩ ⟨rfl, rfl, by decide, by decide⟩ (Nat.le_of_ble_eq_true rfl) rfl dX2_linesFit_4 (fun r_4 h => ?_)
  refine v_lstore_n X (lv' := [(3, .long r_4), (0, .ref o_p0), (1, .ref o_p1), (2, .ref o_p2)]) dX2_linesFit_7 rfl (by decide) rfl ?_
  refine v_iconst X dX2_linesFit_8 (v := (0 : Int32)) (by decide) ?_
  refine v_istore X (lv' := [(5, .int (0 : Int32)), (3, .long r_4), (0, .ref o_p0), (1, .ref o_p1), (2, .ref o_p2)]) dX2_linesFit_9 (by decide) rfl ?_
  refine v_lv (lv' := [(0, .ref o_p0), (1, .ref o_p1), (2, .ref o_p2), (3, .long r_4), (5, .int (0 : Int32))]) [2, 3, 4, 1, 0] rfl ?_
  obtain ⟨n_, h⟩ := h
  exact k_X2_linesFit_11 X r n_ _ _ h
abbrev cl_X2_linesFit_a (T : Nat → ClassId) (o_p0 : Nat) (a_p0 : Nat → Nat) (o_p1 : Nat) (a_p1 : Nat → Nat) (s_p0_depth : Int32) (s_p0_tryCount : Int32) (s_p0_isSpent : Int32) (s_p0_isFound : Int32) (s_p0_images : Nat → Int32) (s_p1_there : Int32) (s_p1_kind : Int32) (s_p1_tag : Int32) (s_p1_size : Int32) (s_p1_lineCount : Int32) (s_p1_sets : Nat → Int64) : va_W := [vO o_p0 0 [.ref (a_p0 0), .ref (a_p0 1), .ref (a_p0 2), .int s_p0_depth, .int s_p0_tryCount, .int s_p0_isSpent, .int s_p0_isFound], vI T (a_p0 0) 45 s_p0_images, vO o_p1 2 [.ref (a_p1 0), .ref (a_p1 1), .ref (a_p1 2), .int s_p1_there, .int s_p1_kind, .int s_p1_tag, .int s_p1_size, .int s_p1_lineCount], vJ T (a_p1 0) 45 s_p1_sets]
abbrev r_X2_linesFit_a (E : vE) (T : Nat → ClassId) (o_p0 : Nat) (a_p0 : Nat → Nat) (o_p1 : Nat) (a_p1 : Nat → Nat) (s_p0_depth : Int32) (s_p0_tryCount : Int32) (s_p0_isSpent : Int32) (s_p0_isFound : Int32) (s_p0_images : Nat → Int32) (s_p1_there : Int32) (s_p1_kind : Int32) (s_p1_tag : Int32) (s_p1_size : Int32) (s_p1_lineCount : Int32) (s_p1_sets : Nat → Int64) (Q : Int32 → Prop) : Prop := vRz E cX2_linesFit (fun v (u : Unit) => Q v) (fun (u : Unit) => (cl_X2_linesFit_a T o_p0 a_p0 o_p1 a_p1 s_p0_depth s_p0_tryCount s_p0_isSpent s_p0_isFound s_p0_images s_p1_there s_p1_kind s_p1_tag s_p1_size s_p1_lineCount s_p1_sets))
set_option maxHeartbeats 4000000 in
set_option maxRecDepth 100000 in
theorem k_X2_linesFit_11_a {E : vE} {T : Nat → ClassId} {o_p0 : Nat} {a_p0 : Nat → Nat} {o_p1 : Nat} {a_p1 : Nat → Nat} {s_p0_depth : Int32} {s_p0_tryCount : Int32} {s_p0_isSpent : Int32} {s_p0_isFound : Int32} {s_p0_images : Nat → Int32} {s_p1_there : Int32} {s_p1_kind : Int32} {s_p1_tag : Int32} {s_p1_size : Int32} {s_p1_lineCount : Int32} {s_p1_sets : Nat → Int64} {Q : Int32 → Prop} (X : vX E cX2_linesFit 7 RX2 wsX2_linesFit (vT T) (vr 2 48)) (r : r_X2_linesFit_a E T o_p0 a_p0 o_p1 a_p1 s_p0_depth s_p0_tryCount s_p0_isSpent s_p0_isFound s_p0_images s_p1_there s_p1_kind s_p1_tag s_p1_size s_p1_lineCount s_p1_sets Q) : ∀ (n_ : Nat) (x_3 : Int64) (x_5 : Int32), w_X2_linesFit_11 s_p0_images s_p1_size s_p1_lineCount s_p1_sets s_p1_lineCount s_p1_sets Q n_ x_3 x_5 → V E 0 0 11 [(0, .ref o_p0), (1, .ref o_p1), (2, .ref o_p1), (3, .long x_3), (5, .int x_5)] [] (cl_X2_linesFit_a T o_p0 a_p0 o_p1 a_p1 s_p0_depth s_p0_tryCount s_p0_isSpent s_p0_isFound s_p0_images s_p1_there s_p1_kind s_p1_tag s_p1_size s_p1_lineCount s_p1_sets) := by
  intro n_
  induction n_ with
  | zero => intro x_3 x_5 h; exact h.elim
  | succ n_ hK_11 =>
    intro x_3 x_5 h
    replace h : w_X2_linesFit_11s s_p0_images s_p1_size s_p1_lineCount s_p1_sets s_p1_lineCount s_p1_sets Q (w_X2_linesFit_11 s_p0_images s_p1_size s_p1_lineCount s_p1_sets s_p1_lineCount s_p1_sets Q n_) x_3 x_5 := h
    unfold w_X2_linesFit_11s at h
    refine v_iload X 4 dX2_linesFit_11 rfl ?_
    refine v_aload_n X 1 dX2_linesFit_13 rfl rfl ?_
    refine v_getN X 2 7 (F := TX5) (N := 8) iX2_linesFit_X5 rfl rfl (by decide) (List.mem_of_getElem? (i := 32) rfl) rfl rfl dX2_linesFit_14 ?_
    refine v_icmp_ge X (tgt := 68) dX2_linesFit_17 (by decide) (fun c_17 => ?_) (fun c_17 => ?_)
    · replace h := h.1 c_17
      refine v_iconst X dX2_linesFit_68 (v := (1 : Int32)) (by decide) ?_
      exact r _ _ _ () _ dX2_linesFit_69 h.1 h.2 rfl
    · replace h := h.2 c_17
      refine v_aload_n X 2 dX2_linesFit_20 rfl rfl ?_
      refine v_aload_n X 0 dX2_linesFit_21 rfl rfl ?_
      refine v_aload_n X 1 dX2_linesFit_22 rfl rfl ?_
      refine v_getN X 2 0 (F := TX5) (N := 8) iX2_linesFit_X5 rfl rfl (by decide) (List.mem_of_getElem? (i := 13) rfl) rfl rfl dX2_linesFit_23 ?_
      refine v_iload X 4 dX2_linesFit_26 rfl ?_
      refine v_lald X 3 1 rfl rfl h.1 dX2_linesFit_28 ?_
      replace h := h.2
      refine v_aload_n X 1 dX2_linesFit_29 rfl rfl ?_
      refine v_getN X 2 6 (F := TX5) (N := 8) iX2_linesFit_X5 rfl rfl (by decide) (List.mem_of_getElem? (i := 27) rfl) rfl rfl dX2_linesFit_30 ?_
      refine v_callVl X (As := [.long (s_p1_sets (x_5).toNatClampNeg), .int s_p1_size]) (rest := [.ref o_p1]) 2 0 (c_X2_imageOf (l := vl E) (D := vD E) (T := T) (o_p0 := o_p0) (a_p0 := a_p0) (s_p0_depth := s_p0_depth) (s_p0_tryCount := s_p0_tryCount) (s_p0_isSpent := s_p0_isSpent) (s_p0_isFound := s_p0_isFound) (s_p0_images := s_p0_images) (x_1 := (s_p1_sets (x_5).toNatClampNeg)) (x_3 := s_p1_size) h) gX2_linesFit_X2_imageOf rfl rfl (by decide +kernel) ⟨Nat.zero_le _, Nat.zero_le _⟩ ⟨rfl, rfl, by decide, by decide⟩ (Nat.le_of_ble_eq_true rfl) rfl rfl (wr := [vO o_p1 2 [.ref (a_p1 0), .ref (a_p1 1), .ref (a_p1 2), .int s_p1_there, .int s_p1_kind, .int s_p1_tag, .int s_p1_size, .int s_p1_lineCount], vJ T (a_p1 0) 45 s_p1_sets]) [0, 1] [2, 3] rfl rfl rfl rfl (by decide) rfl dX2_linesFit_33 (fun r_33 u h => ?_)
      refine v_ws (ws' := (cl_X2_linesFit_a T o_p0 a_p0 o_p1 a_p1 s_p0_depth s_p0_tryCount s_p0_isSpent s_p0_isFound s_p0_images s_p1_there s_p1_kind s_p1_tag s_p1_size s_p1_lineCount s_p1_sets)) [2, 3, 0, 1] rfl rfl ?_
      refine v_lload_n X 3 dX2_linesFit_36 rfl rfl ?_
      refine v_callSi X (As := [.ref o_p1, .long r_33, .long x_3]) (rest := []) 3 (c_X2_lineWith (l := vl E) (D := vD E) (T := T) (o_p0 := o_p1) (a_p0 := a_p1) (s_p0_there := s_p1_there) (s_p0_kind := s_p1_kind) (s_p0_tag := s_p1_tag) (s_p0_size := s_p1_size) (s_p0_lineCount := s_p1_lineCount) (s_p0_sets := s_p1_sets) (x_1 := r_33) (x_3 := x_3) h) gX2_linesFit_X2_lineWith rfl rfl (by decide +kernel) ⟨Nat.zero_le _, Nat.zero_le _⟩ ⟨rfl, rfl, by decide, by decide⟩ (Nat.le_of_ble_eq_true rfl) (wr := [vO o_p0 0 [.ref (a_p0 0), .ref (a_p0 1), .ref (a_p0 2), .int s_p0_depth, .int s_p0_tryCount, .int s_p0_isSpent, .int s_p0_isFound], vI T (a_p0 0) 45 s_p0_images]) [2, 3] [0, 1] rfl rfl rfl rfl (by decide) rfl dX2_linesFit_37 (fun r_37 u h => ?_)
      refine v_ws (ws' := (cl_X2_linesFit_a T o_p0 a_p0 o_p1 a_p1 s_p0_depth s_p0_tryCount s_p0_isSpent s_p0_isFound s_p0_images s_p1_there s_p1_kind s_p1_tag s_p1_size s_p1_lineCount s_p1_sets)) [0, 1, 2, 3] rfl rfl ?_
      refine v_istore X (lv' := [(6, .int r_37), (0, .ref o_p0), (1, .ref o_p1), (2, .ref o_p1), (3, .long x_3), (5, .int x_5)]) dX2_linesFit_40 (by decide) rfl ?_
      refine v_iload X 0 dX2_linesFit_42 rfl ?_
      refine v_bipush X dX2_linesFit_44 (v := (-9 : Int32)) (by decide) ?_
      refine v_icmp_ne X (tgt := 51) dX2_linesFit_46 (by decide) (fun c_46 => ?_) (fun c_46 => ?_)
      · replace h := h.1 c_46
        refine v_lload_n X 4 dX2_linesFit_51 rfl rfl ?_
        refine v_lconst X dX2_linesFit_52 (v := (1 : Int64)) (by decide) ?_
        refine v_iload X 0 dX2_linesFit_53 rfl ?_
        refine v_lshl X dX2_linesFit_55 ?_
        refine v_ldc2 X (v := (-1 : Int64)) (List.mem_of_getElem? (i := 1) rfl) dX2_linesFit_56 ?_
        refine v_lxor X dX2_linesFit_59 ?_
        refine v_land X dX2_linesFit_60 ?_
        refine v_lstore_n X (lv' := [(3, .long (x_3 &&& ((vshl (1 : Int64) r_37) ^^^ (-1 : Int64)))), (6, .int r_37), (0, .ref o_p0), (1, .ref o_p1), (2, .ref o_p1), (5, .int x_5)]) dX2_linesFit_61 rfl (by decide) rfl ?_
        refine v_iinc X (v := (x_5 + (1 : Int32))) (lv' := [(5, .int (x_5 + (1 : Int32))), (3, .long (x_3 &&& ((vshl (1 : Int64) r_37) ^^^ (-1 : Int64)))), (6, .int r_37), (0, .ref o_p0), (1, .ref o_p1), (2, .ref o_p1)]) 5 dX2_linesFit_62 rfl rfl (by decide) rfl ?_
        refine v_goto X (tgt := 11) dX2_linesFit_65 (by decide) ?_
        refine v_lv (lv' := [(0, .ref o_p0), (1, .ref o_p1), (2, .ref o_p1), (3, .long (x_3 &&& ((vshl (1 : Int64) r_37) ^^^ (-1 : Int64)))), (5, .int (x_5 + (1 : Int32)))]) [3, 4, 5, 1, 0] rfl ?_
        exact hK_11 _ _ h
      · replace h := h.2 c_46
        refine v_iconst X dX2_linesFit_49 (v := (0 : Int32)) (by decide) ?_
        exact r _ _ _ () _ dX2_linesFit_50 h.1 h.2 rfl
set_option maxHeartbeats 4000000 in
set_option maxRecDepth 100000 in
theorem c_X2_linesFit_a {l : Launch} {D : va_G} {T : Nat → ClassId} {o_p0 : Nat} {a_p0 : Nat → Nat} {o_p1 : Nat} {a_p1 : Nat → Nat} {s_p0_depth : Int32} {s_p0_tryCount : Int32} {s_p0_isSpent : Int32} {s_p0_isFound : Int32} {s_p0_images : Nat → Int32} {s_p1_there : Int32} {s_p1_kind : Int32} {s_p1_tag : Int32} {s_p1_size : Int32} {s_p1_lineCount : Int32} {s_p1_sets : Nat → Int64} {Q : Int32 → Prop} (h : w_X2_linesFit s_p0_images s_p1_size s_p1_lineCount s_p1_sets s_p1_lineCount s_p1_sets Q) : vCi l D (vT T) yX2_linesFit wsX2_linesFit (vr 2 48) [.ref o_p0, .ref o_p1, .ref o_p1] (cl_X2_linesFit_a T o_p0 a_p0 o_p1 a_p1 s_p0_depth s_p0_tryCount s_p0_isSpent s_p0_isFound s_p0_images s_p1_there s_p1_kind s_p1_tag s_p1_size s_p1_lineCount s_p1_sets) (fun v (u : Unit) => Q v) (fun (u : Unit) => (cl_X2_linesFit_a T o_p0 a_p0 o_p1 a_p1 s_p0_depth s_p0_tryCount s_p0_isSpent s_p0_isFound s_p0_images s_p1_there s_p1_kind s_p1_tag s_p1_size s_p1_lineCount s_p1_sets)) := by
  refine vC_z (cc := cX2_linesFit) (nL := 7) (by decide +kernel) rfl ⟨rfl, rfl⟩ (Nat.le_of_ble_eq_true rfl) rfl ?_
  intro E el eD X r
  unfold w_X2_linesFit at h
  refine v_aload_n X 2 dX2_linesFit_0 rfl rfl ?_
  refine v_getN X 2 7 (F := TX5) (N := 8) iX2_linesFit_X5 rfl rfl (by decide) (List.mem_of_getElem? (i := 32) rfl) rfl rfl dX2_linesFit_1 ?_
  refine v_callNl0 X (As := [.int s_p1_lineCount]) (rest := []) 1 (c_X6_below (l := vl E) (D := vD E) (T := T) (x_0 := s_p1_lineCount) h) gX2_linesFit_X6_below_n65 (List.mem_of_getElem? (i := 45) rfl) (List.mem_of_getElem? (i := 3) rfl) (List.mem_of_getElem? (i := 2) rfl) rfl rfl (by decide +kernel) ⟨Nat.zero_le _, Nat.zero_le _⟩ ⟨rfl, rfl, by decide, by decide⟩ (Nat.le_of_ble_eq_true rfl) rfl dX2_linesFit_4 (fun r_4 h => ?_)
  refine v_lstore_n X (lv' := [(3, .long r_4), (0, .ref o_p0), (1, .ref o_p1), (2, .ref o_p1)]) dX2_linesFit_7 rfl (by decide) rfl ?_
  refine v_iconst X dX2_linesFit_8 (v := (0 : Int32)) (by decide) ?_
  refine v_istore X (lv' := [(5, .int (0 : Int32)), (3, .long r_4), (0, .ref o_p0), (1, .ref o_p1), (2, .ref o_p1)]) dX2_linesFit_9 (by decide) rfl ?_
  refine v_lv (lv' := [(0, .ref o_p0), (1, .ref o_p1), (2, .ref o_p1), (3, .long r_4), (5, .int (0 : Int32))]) [2, 3, 4, 1, 0] rfl ?_
  obtain ⟨n_, h⟩ := h
  exact k_X2_linesFit_11_a X r n_ _ _ h
-- X2_open
abbrev cl_X2_open (T : Nat → ClassId) (o_p0 : Nat) (a_p0 : Nat → Nat) (o_p1 : Nat) (a_p1 : Nat → Nat) (o_p2 : Nat) (a_p2 : Nat → Nat) (s_p0_depth : Int32) (s_p0_tryCount : Int32) (s_p0_isSpent : Int32) (s_p0_isFound : Int32) (s_p0_images : Nat → Int32) (s_p0_left : Nat → Int64) (s_p0_used : Nat → Int64) (s_p1_there : Int32) (s_p1_kind : Int32) (s_p1_tag : Int32) (s_p1_size : Int32) (s_p1_lineCount : Int32) (s_p1_near : Nat → Int64) (s_p1_sets : Nat → Int64) (s_p1_through : Nat → Int64) (s_p2_there : Int32) (s_p2_kind : Int32) (s_p2_tag : Int32) (s_p2_size : Int32) (s_p2_lineCount : Int32) (s_p2_near : Nat → Int64) (s_p2_sets : Nat → Int64) (s_p2_through : Nat → Int64) : va_W := [vO o_p0 0 [.ref (a_p0 0), .ref (a_p0 1), .ref (a_p0 2), .int s_p0_depth, .int s_p0_tryCount, .int s_p0_isSpent, .int s_p0_isFound], vI T (a_p0 0) 45 s_p0_images, vJ T (a_p0 2) 46 s_p0_left, vJ T (a_p0 1) 46 s_p0_used, vO o_p1 2 [.ref (a_p1 0), .ref (a_p1 1), .ref (a_p1 2), .int s_p1_there, .int s_p1_kind, .int s_p1_tag, .int s_p1_size, .int s_p1_lineCount], vJ T (a_p1 2) 45 s_p1_near, vJ T (a_p1 0) 45 s_p1_sets, vJ T (a_p1 1) 45 s_p1_through, vO o_p2 2 [.ref (a_p2 0), .ref (a_p2 1), .ref (a_p2 2), .int s_p2_there, .int s_p2_kind, .int s_p2_tag, .int s_p2_size, .int s_p2_lineCount], vJ T (a_p2 2) 45 s_p2_near, vJ T (a_p2 0) 45 s_p2_sets, vJ T (a_p2 1) 45 s_p2_through]
abbrev r_X2_open (E : vE) (T : Nat → ClassId) (o_p0 : Nat) (a_p0 : Nat → Nat) (o_p1 : Nat) (a_p1 : Nat → Nat) (o_p2 : Nat) (a_p2 : Nat → Nat) (s_p0_depth : Int32) (s_p0_tryCount : Int32) (s_p0_isSpent : Int32) (s_p0_images : Nat → Int32) (s_p0_used : Nat → Int64) (s_p1_there : Int32) (s_p1_kind : Int32) (s_p1_tag : Int32) (s_p1_size : Int32) (s_p1_lineCount : Int32) (s_p1_near : Nat → Int64) (s_p1_sets : Nat → Int64) (s_p1_through : Nat → Int64) (s_p2_there : Int32) (s_p2_kind : Int32) (s_p2_tag : Int32) (s_p2_size : Int32) (s_p2_lineCount : Int32) (s_p2_near : Nat → Int64) (s_p2_sets : Nat → Int64) (s_p2_through : Nat → Int64) (Q : (Int32) → (Nat → Int64) → Prop) : Prop := vRv E cX2_open (fun (u : (Int32) × (Nat → Int64)) => Q u.1 u.2) (fun (u : (Int32) × (Nat → Int64)) => (cl_X2_open T o_p0 a_p0 o_p1 a_p1 o_p2 a_p2 s_p0_depth s_p0_tryCount s_p0_isSpent u.1 s_p0_images u.2 s_p0_used s_p1_there s_p1_kind s_p1_tag s_p1_size s_p1_lineCount s_p1_near s_p1_sets s_p1_through s_p2_there s_p2_kind s_p2_tag s_p2_size s_p2_lineCount s_p2_near s_p2_sets s_p2_through))
def w_X2_open_154 (x_3 : Int64) (x_5 : Int32) (x_6 : Int32) (s_p0_depth : Int32) (s_p0_isFound : Int32) (s_p0_images : Nat → Int32) (s_p0_left : Nat → Int64) (s_p0_used : Nat → Int64) (s_p1_size : Int32) (s_p1_lineCount : Int32) (s_p1_near : Nat → Int64) (s_p1_sets : Nat → Int64) (s_p1_through : Nat → Int64) (s_p2_size : Int32) (s_p2_lineCount : Int32) (s_p2_near : Nat → Int64) (s_p2_sets : Nat → Int64) (s_p2_through : Nat → Int64) (K_75 : (Int32) → (Nat → Int64) → Prop) (Q : (Int32) → (Nat → Int64) → Prop) : Prop := (K_75 (x_6 + (1 : Int32)) s_p0_left)
def w_X2_open_75s (x_3 : Int64) (x_5 : Int32) (s_p0_depth : Int32) (s_p0_isFound : Int32) (s_p0_images : Nat → Int32) (s_p0_used : Nat → Int64) (s_p1_size : Int32) (s_p1_lineCount : Int32) (s_p1_near : Nat → Int64) (s_p1_sets : Nat → Int64) (s_p1_through : Nat → Int64) (s_p2_size : Int32) (s_p2_lineCount : Int32) (s_p2_near : Nat → Int64) (s_p2_sets : Nat → Int64) (s_p2_through : Nat → Int64) (Q : (Int32) → (Nat → Int64) → Prop) (K_75 : (Int32) → (Nat → Int64) → Prop) (x_6 : Int32) (s_p0_left : Nat → Int64) : Prop := ((s_p2_size ≤ x_6 → (Q s_p0_isFound s_p0_left)) ∧ (¬ s_p2_size ≤ x_6 → (vp_in s_p0_depth 46 ∧ (w_X6_has (s_p0_used (s_p0_depth).toNatClampNeg) x_6 (fun (r_95 : Int32) => ((¬ r_95 = 0 → (w_X2_open_154 x_3 x_5 x_6 s_p0_depth s_p0_isFound s_p0_images s_p0_left s_p0_used s_p1_size s_p1_lineCount s_p1_near s_p1_sets s_p1_through s_p2_size s_p2_lineCount s_p2_near s_p2_sets s_p2_through K_75 Q)) ∧ (r_95 = 0 → (vp_in x_6 45 ∧ (w_J13_bitCount_95d88 (s_p2_through (x_6).toNatClampNeg) (fun (r_108 : Int32) => ((¬ r_108 = x_5 → (w_X2_open_154 x_3 x_5 x_6 s_p0_depth s_p0_isFound s_p0_images s_p0_left s_p0_used s_p1_size s_p1_lineCount s_p1_near s_p1_sets s_p1_through s_p2_size s_p2_lineCount s_p2_near s_p2_sets s_p2_through K_75 Q)) ∧ (r_108 = x_5 → (vp_in x_6 45 ∧ (vp_in s_p0_depth 46 ∧ ((¬ (lg_cmp ((s_p2_near (x_6).toNatClampNeg) &&& (s_p0_used (s_p0_depth).toNatClampNeg)) x_3) = 0 → (w_X2_open_154 x_3 x_5 x_6 s_p0_depth s_p0_isFound s_p0_images s_p0_left s_p0_used s_p1_size s_p1_lineCount s_p1_near s_p1_sets s_p1_through s_p2_size s_p2_lineCount s_p2_near s_p2_sets s_p2_through K_75 Q)) ∧ ((lg_cmp ((s_p2_near (x_6).toNatClampNeg) &&& (s_p0_used (s_p0_depth).toNatClampNeg)) x_3) = 0 → (vp_in s_p0_depth 46 ∧ (vp_in s_p0_depth 46 ∧ (w_X2_open_154 x_3 x_5 x_6 s_p0_depth s_p0_isFound s_p0_images (vp_updL s_p0_left (s_p0_depth).toNatClampNeg ((s_p0_left (s_p0_depth).toNatClampNeg) ||| (vshl (1 : Int64) x_6))) s_p0_used s_p1_size s_p1_lineCount s_p1_near s_p1_sets s_p1_through s_p2_size s_p2_lineCount s_p2_near s_p2_sets s_p2_through K_75 Q)))))))))))))))))))
def w_X2_open_75 (x_3 : Int64) (x_5 : Int32) (s_p0_depth : Int32) (s_p0_isFound : Int32) (s_p0_images : Nat → Int32) (s_p0_used : Nat → Int64) (s_p1_size : Int32) (s_p1_lineCount : Int32) (s_p1_near : Nat → Int64) (s_p1_sets : Nat → Int64) (s_p1_through : Nat → Int64) (s_p2_size : Int32) (s_p2_lineCount : Int32) (s_p2_near : Nat → Int64) (s_p2_sets : Nat → Int64) (s_p2_through : Nat → Int64) (Q : (Int32) → (Nat → Int64) → Prop) : Nat → (Int32) → (Nat → Int64) → Prop
  | 0 => fun _ _ => False
  | n_ + 1 => w_X2_open_75s x_3 x_5 s_p0_depth s_p0_isFound s_p0_images s_p0_used s_p1_size s_p1_lineCount s_p1_near s_p1_sets s_p1_through s_p2_size s_p2_lineCount s_p2_near s_p2_sets s_p2_through Q (w_X2_open_75 x_3 x_5 s_p0_depth s_p0_isFound s_p0_images s_p0_used s_p1_size s_p1_lineCount s_p1_near s_p1_sets s_p1_through s_p2_size s_p2_lineCount s_p2_near s_p2_sets s_p2_through Q n_)
def w_X2_open (s_p0_depth : Int32) (s_p0_isFound : Int32) (s_p0_images : Nat → Int32) (s_p0_left : Nat → Int64) (s_p0_used : Nat → Int64) (s_p1_size : Int32) (s_p1_lineCount : Int32) (s_p1_near : Nat → Int64) (s_p1_sets : Nat → Int64) (s_p1_through : Nat → Int64) (s_p2_size : Int32) (s_p2_lineCount : Int32) (s_p2_near : Nat → Int64) (s_p2_sets : Nat → Int64) (s_p2_through : Nat → Int64) (Q : (Int32) → (Nat → Int64) → Prop) : Prop := (vp_in s_p0_depth 46 ∧ ((¬ s_p0_depth = s_p1_size → (vp_in s_p0_depth 45 ∧ (w_X6_below s_p0_depth (fun (r_46 : Int64) => (w_X2_imageOf ((s_p1_near (s_p0_depth).toNatClampNeg) &&& r_46) s_p0_depth s_p0_images (fun (r_54 : Int64) => (vp_in s_p0_depth 45 ∧ (w_J13_bitCount_95d88 (s_p1_through (s_p0_depth).toNatClampNeg) (fun (r_67 : Int32) => (∃ n_, w_X2_open_75 r_54 r_67 s_p0_depth s_p0_isFound s_p0_images s_p0_used s_p1_size s_p1_lineCount s_p1_near s_p1_sets s_p1_through s_p2_size s_p2_lineCount s_p2_near s_p2_sets s_p2_through Q n_ (0 : Int32) (vp_updL s_p0_left (s_p0_depth).toNatClampNeg (0 : Int64)))))))))))) ∧ (s_p0_depth = s_p1_size → (w_X2_linesFit s_p0_images s_p1_size s_p1_lineCount s_p1_sets s_p2_lineCount s_p2_sets (fun (r_25 : Int32) => (vz r_25 ∧ (Q r_25 (vp_updL s_p0_left (s_p0_depth).toNatClampNeg (0 : Int64)))))))))
-- X2_open
theorem iX2_open_X2 : ∀ w ∈ wsX20, w ∈ wsX2_open := by decide +kernel
theorem iX2_open_X5 : ∀ w ∈ wsX50, w ∈ wsX2_open := by decide +kernel
set_option maxHeartbeats 4000000 in
set_option maxRecDepth 100000 in
theorem k_X2_open_154 {E : vE} {T : Nat → ClassId} {o_p0 : Nat} {a_p0 : Nat → Nat} {o_p1 : Nat} {a_p1 : Nat → Nat} {o_p2 : Nat} {a_p2 : Nat → Nat} {s_p0_depth : Int32} {s_p0_tryCount : Int32} {s_p0_isSpent : Int32} {s_p0_isFound : Int32} {s_p0_images : Nat → Int32} {s_p0_left : Nat → Int64} {s_p0_used : Nat → Int64} {s_p1_there : Int32} {s_p1_kind : Int32} {s_p1_tag : Int32} {s_p1_size : Int32} {s_p1_lineCount : Int32} {s_p1_near : Nat → Int64} {s_p1_sets : Nat → Int64} {s_p1_through : Nat → Int64} {s_p2_there : Int32} {s_p2_kind : Int32} {s_p2_tag : Int32} {s_p2_size : Int32} {s_p2_lineCount : Int32} {s_p2_near : Nat → Int64} {s_p2_sets : Nat → Int64} {s_p2_through : Nat → Int64} {x_3 : Int64} {x_5 : Int32} {x_6 : Int32} {K_75 : (Int32) → (Nat → Int64) → Prop} {Q : (Int32) → (Nat → Int64) → Prop} (X : vX E cX2_open 7 RX2 wsX2_open (vT T) (vr 3 74)) (r : r_X2_open E T o_p0 a_p0 o_p1 a_p1 o_p2 a_p2 s_p0_depth s_p0_tryCount s_p0_isSpent s_p0_images s_p0_used s_p1_there s_p1_kind s_p1_tag s_p1_size s_p1_lineCount s_p1_near s_p1_sets s_p1_through s_p2_there s_p2_kind s_p2_tag s_p2_size s_p2_lineCount s_p2_near s_p2_sets s_p2_through Q) (hK_75 : ∀ (x_6' : Int32) (s_p0_left' : Nat → Int64), K_75 x_6' s_p0_left' → V E 0 0 75 [(0, .ref o_p0), (2, .ref o_p2), (3, .long x_3), (5, .int x_5), (6, .int x_6')] [] (cl_X2_open T o_p0 a_p0 o_p1 a_p1 o_p2 a_p2 s_p0_depth s_p0_tryCount s_p0_isSpent s_p0_isFound s_p0_images s_p0_left' s_p0_used s_p1_there s_p1_kind s_p1_tag s_p1_size s_p1_lineCount s_p1_near s_p1_sets s_p1_through s_p2_there s_p2_kind s_p2_tag s_p2_size s_p2_lineCount s_p2_near s_p2_sets s_p2_through)) (h : w_X2_open_154 x_3 x_5 x_6 s_p0_depth s_p0_isFound s_p0_images s_p0_left s_p0_used s_p1_size s_p1_lineCount s_p1_near s_p1_sets s_p1_through s_p2_size s_p2_lineCount s_p2_near s_p2_sets s_p2_through K_75 Q) : V E 0 0 154 [(0, .ref o_p0), (2, .ref o_p2), (3, .long x_3), (5, .int x_5), (6, .int x_6)] [] (cl_X2_open T o_p0 a_p0 o_p1 a_p1 o_p2 a_p2 s_p0_depth s_p0_tryCount s_p0_isSpent s_p0_isFound s_p0_images s_p0_left s_p0_used s_p1_there s_p1_kind s_p1_tag s_p1_size s_p1_lineCount s_p1_near s_p1_sets s_p1_through s_p2_there s_p2_kind s_p2_tag s_p2_size s_p2_lineCount s_p2_near s_p2_sets s_p2_through) := by
  unfold w_X2_open_154 at h
  refine v_iinc X (v := (x_6 + (1 : Int32))) (lv' := [(6, .int (x_6 + (1 : Int32))), (0, .ref o_p0), (2, .ref o_p2), (3, .long x_3), (5, .int x_5)]) 4 dX2_open_154 rfl rfl (by decide) rfl ?_
  refine v_goto X (tgt := 75) dX2_open_157 (by decide) ?_
  refine v_lv (lv' := [(0, .ref o_p0), (2, .ref o_p2), (3, .long x_3), (5, .int x_5), (6, .int (x_6 + (1 : Int32)))]) [1, 2, 3, 4, 0] rfl ?_
  exact hK_75 _ _ h
set_option maxHeartbeats 4000000 in
set_option maxRecDepth 100000 in
theorem k_X2_open_75 {E : vE} {T : Nat → ClassId} {o_p0 : Nat} {a_p0 : Nat → Nat} {o_p1 : Nat} {a_p1 : Nat → Nat} {o_p2 : Nat} {a_p2 : Nat → Nat} {s_p0_depth : Int32} {s_p0_tryCount : Int32} {s_p0_isSpent : Int32} {s_p0_isFound : Int32} {s_p0_images : Nat → Int32} {s_p0_used : Nat → Int64} {s_p1_there : Int32} {s_p1_kind : Int32} {s_p1_tag : Int32} {s_p1_size : Int32} {s_p1_lineCount : Int32} {s_p1_near : Nat → Int64} {s_p1_sets : Nat → Int64} {s_p1_through : Nat → Int64} {s_p2_there : Int32} {s_p2_kind : Int32} {s_p2_tag : Int32} {s_p2_size : Int32} {s_p2_lineCount : Int32} {s_p2_near : Nat → Int64} {s_p2_sets : Nat → Int64} {s_p2_through : Nat → Int64} {x_3 : Int64} {x_5 : Int32} {Q : (Int32) → (Nat → Int64) → Prop} (X : vX E cX2_open 7 RX2 wsX2_open (vT T) (vr 3 74)) (r : r_X2_open E T o_p0 a_p0 o_p1 a_p1 o_p2 a_p2 s_p0_depth s_p0_tryCount s_p0_isSpent s_p0_images s_p0_used s_p1_there s_p1_kind s_p1_tag s_p1_size s_p1_lineCount s_p1_near s_p1_sets s_p1_through s_p2_there s_p2_kind s_p2_tag s_p2_size s_p2_lineCount s_p2_near s_p2_sets s_p2_through Q) : ∀ (n_ : Nat) (x_6 : Int32) (s_p0_left : Nat → Int64), w_X2_open_75 x_3 x_5 s_p0_depth s_p0_isFound s_p0_images s_p0_used s_p1_size s_p1_lineCount s_p1_near s_p1_sets s_p1_through s_p2_size s_p2_lineCount s_p2_near s_p2_sets s_p2_through Q n_ x_6 s_p0_left → V E 0 0 75 [(0, .ref o_p0), (2, .ref o_p2), (3, .long x_3), (5, .int x_5), (6, .int x_6)] [] (cl_X2_open T o_p0 a_p0 o_p1 a_p1 o_p2 a_p2 s_p0_depth s_p0_tryCount s_p0_isSpent s_p0_isFound s_p0_images s_p0_left s_p0_used s_p1_there s_p1_kind s_p1_tag s_p1_size s_p1_lineCount s_p1_near s_p1_sets s_p1_through s_p2_there s_p2_kind s_p2_tag s_p2_size s_p2_lineCount s_p2_near s_p2_sets s_p2_through) := by
  intro n_
  induction n_ with
  | zero => intro x_6 s_p0_left h; exact h.elim
  | succ n_ hK_75 =>
    intro x_6 s_p0_left h
    replace h : w_X2_open_75s x_3 x_5 s_p0_depth s_p0_isFound s_p0_images s_p0_used s_p1_size s_p1_lineCount s_p1_near s_p1_sets s_p1_through s_p2_size s_p2_lineCount s_p2_near s_p2_sets s_p2_through Q (w_X2_open_75 x_3 x_5 s_p0_depth s_p0_isFound s_p0_images s_p0_used s_p1_size s_p1_lineCount s_p1_near s_p1_sets s_p1_through s_p2_size s_p2_lineCount s_p2_near s_p2_sets s_p2_through Q n_) x_6 s_p0_left := h
    unfold w_X2_open_75s at h
    refine v_iload X 4 dX2_open_75 rfl ?_
    refine v_aload_n X 1 dX2_open_77 rfl rfl ?_
    refine v_getN X 8 6 (F := TX5) (N := 8) iX2_open_X5 rfl rfl (by decide) (List.mem_of_getElem? (i := 27) rfl) rfl rfl dX2_open_78 ?_
    refine v_icmp_ge X (tgt := 160) dX2_open_81 (by decide) (fun c_81 => ?_) (fun c_81 => ?_)
    · replace h := h.1 c_81
      exact r _ _ (s_p0_isFound, s_p0_left) _ dX2_open_160 h rfl
    · replace h := h.2 c_81
      refine v_aload_n X 0 dX2_open_84 rfl rfl ?_
      refine v_get X 0 1 (F := TX2) (N := 7) iX2_open_X2 rfl rfl (by decide) (List.mem_of_getElem? (i := 4) rfl) rfl rfl dX2_open_85 ?_
      refine v_aload_n X 0 dX2_open_88 rfl rfl ?_
      refine v_get X 0 3 (F := TX2) (N := 7) iX2_open_X2 rfl rfl (by decide) (List.mem_of_getElem? (i := 2) rfl) rfl rfl dX2_open_89 ?_
      refine v_lald X 3 1 rfl rfl h.1 dX2_open_92 ?_
      replace h := h.2
      refine v_iload X 4 dX2_open_93 rfl ?_
      refine v_callNi0 X (As := [.long (s_p0_used (s_p0_depth).toNatClampNeg), .int x_6]) (rest := []) 2 (c_X6_has (l := vl E) (D := vD E) (T := T) (x_0 := (s_p0_used (s_p0_depth).toNatClampNeg)) (x_2 := x_6) h) gX2_open_X6_has_n81 (List.mem_of_getElem? (i := 46) rfl) (List.mem_of_getElem? (i := 12) rfl) (List.mem_of_getElem? (i := 19) rfl) rfl rfl (by decide +kernel) ⟨Nat.zero_le _, Nat.zero_le _⟩ ⟨rfl, rfl, by decide, by decide⟩ (Nat.le_of_ble_eq_true rfl) rfl dX2_open_95 (fun r_95 h => ?_)
      refine v_if_ne X (tgt := 154) dX2_open_98 (by decide) (fun c_98 => ?_) (fun c_98 => ?_)
      · replace h := h.1 c_98
        exact k_X2_open_154 X r hK_75 h
      · replace h := h.2 c_98
        refine v_aload_n X 1 dX2_open_101 rfl rfl ?_
        refine v_getN X 8 1 (F := TX5) (N := 8) iX2_open_X5 rfl rfl (by decide) (List.mem_of_getElem? (i := 16) rfl) rfl rfl dX2_open_102 ?_
        refine v_iload X 4 dX2_open_105 rfl ?_
        refine v_lald X 11 1 rfl rfl h.1 dX2_open_107 ?_
        replace h := h.2
        refine v_callSi0 X (As := [.long (s_p2_through (x_6).toNatClampNeg)]) (rest := []) 1 (c_J13_bitCount_95d88 (l := vl E) (D := vD E) (T := T) (x_0 := (s_p2_through (x_6).toNatClampNeg)) h) gX2_open_J13_bitCount_95d88 rfl rfl (by decide +kernel) ⟨Nat.zero_le _, Nat.zero_le _⟩ ⟨rfl, rfl, by decide, by decide⟩ (Nat.le_of_ble_eq_true rfl) rfl dX2_open_108 (fun r_108 h => ?_)
        refine v_iload X 3 dX2_open_111 rfl ?_
        refine v_icmp_ne X (tgt := 154) dX2_open_113 (by decide) (fun c_113 => ?_) (fun c_113 => ?_)
        · replace h := h.1 c_113
          exact k_X2_open_154 X r hK_75 h
        · replace h := h.2 c_113
          refine v_aload_n X 1 dX2_open_116 rfl rfl ?_
          refine v_getN X 8 2 (F := TX5) (N := 8) iX2_open_X5 rfl rfl (by decide) (List.mem_of_getElem? (i := 21) rfl) rfl rfl dX2_open_117 ?_
          refine v_iload X 4 dX2_open_120 rfl ?_
          refine v_lald X 9 1 rfl rfl h.1 dX2_open_122 ?_
          replace h := h.2
          refine v_aload_n X 0 dX2_open_123 rfl rfl ?_
          refine v_get X 0 1 (F := TX2) (N := 7) iX2_open_X2 rfl rfl (by decide) (List.mem_of_getElem? (i := 4) rfl) rfl rfl dX2_open_124 ?_
          refine v_aload_n X 0 dX2_open_127 rfl rfl ?_
          refine v_get X 0 3 (F := TX2) (N := 7) iX2_open_X2 rfl rfl (by decide) (List.mem_of_getElem? (i := 2) rfl) rfl rfl dX2_open_128 ?_
          refine v_lald X 3 1 rfl rfl h.1 dX2_open_131 ?_
          replace h := h.2
          refine v_land X dX2_open_132 ?_
          refine v_lload_n X 2 dX2_open_133 rfl rfl ?_
          refine v_lcmp X dX2_open_134 ?_
          refine v_if_ne X (tgt := 154) dX2_open_135 (by decide) (fun c_135 => ?_) (fun c_135 => ?_)
          · replace h := h.1 c_135
            exact k_X2_open_154 X r hK_75 h
          · replace h := h.2 c_135
            refine v_aload_n X 0 dX2_open_138 rfl rfl ?_
            refine v_get X 0 2 (F := TX2) (N := 7) iX2_open_X2 rfl rfl (by decide) (List.mem_of_getElem? (i := 1) rfl) rfl rfl dX2_open_139 ?_
            refine v_aload_n X 0 dX2_open_142 rfl rfl ?_
            refine v_get X 0 3 (F := TX2) (N := 7) iX2_open_X2 rfl rfl (by decide) (List.mem_of_getElem? (i := 2) rfl) rfl rfl dX2_open_143 ?_
            refine v_dup2_11 X dX2_open_146 rfl rfl ?_
            refine v_lald X 2 1 rfl rfl h.1 dX2_open_147 ?_
            replace h := h.2
            refine v_lconst X dX2_open_148 (v := (1 : Int64)) (by decide) ?_
            refine v_iload X 4 dX2_open_149 rfl ?_
            refine v_lshl X dX2_open_151 ?_
            refine v_lor X dX2_open_152 ?_
            refine v_last X (ws' := (cl_X2_open T o_p0 a_p0 o_p1 a_p1 o_p2 a_p2 s_p0_depth s_p0_tryCount s_p0_isSpent s_p0_isFound s_p0_images (vp_updL s_p0_left (s_p0_depth).toNatClampNeg ((s_p0_left (s_p0_depth).toNatClampNeg) ||| (vshl (1 : Int64) x_6))) s_p0_used s_p1_there s_p1_kind s_p1_tag s_p1_size s_p1_lineCount s_p1_near s_p1_sets s_p1_through s_p2_there s_p2_kind s_p2_tag s_p2_size s_p2_lineCount s_p2_near s_p2_sets s_p2_through)) 2 1 rfl rfl h.1 rfl dX2_open_153 ?_
            replace h := h.2
            exact k_X2_open_154 X r hK_75 h
set_option maxHeartbeats 4000000 in
set_option maxRecDepth 100000 in
theorem c_X2_open {l : Launch} {D : va_G} {T : Nat → ClassId} {o_p0 : Nat} {a_p0 : Nat → Nat} {o_p1 : Nat} {a_p1 : Nat → Nat} {o_p2 : Nat} {a_p2 : Nat → Nat} {s_p0_depth : Int32} {s_p0_tryCount : Int32} {s_p0_isSpent : Int32} {s_p0_isFound : Int32} {s_p0_images : Nat → Int32} {s_p0_left : Nat → Int64} {s_p0_used : Nat → Int64} {s_p1_there : Int32} {s_p1_kind : Int32} {s_p1_tag : Int32} {s_p1_size : Int32} {s_p1_lineCount : Int32} {s_p1_near : Nat → Int64} {s_p1_sets : Nat → Int64} {s_p1_through : Nat → Int64} {s_p2_there : Int32} {s_p2_kind : Int32} {s_p2_tag : Int32} {s_p2_size : Int32} {s_p2_lineCount : Int32} {s_p2_near : Nat → Int64} {s_p2_sets : Nat → Int64} {s_p2_through : Nat → Int64} {Q : (Int32) → (Nat → Int64) → Prop} (h : w_X2_open s_p0_depth s_p0_isFound s_p0_images s_p0_left s_p0_used s_p1_size s_p1_lineCount s_p1_near s_p1_sets s_p1_through s_p2_size s_p2_lineCount s_p2_near s_p2_sets s_p2_through Q) : vCv l D (vT T) yX2_open wsX2_open (vr 3 74) [.ref o_p0, .ref o_p1, .ref o_p2] (cl_X2_open T o_p0 a_p0 o_p1 a_p1 o_p2 a_p2 s_p0_depth s_p0_tryCount s_p0_isSpent s_p0_isFound s_p0_images s_p0_left s_p0_used s_p1_there s_p1_kind s_p1_tag s_p1_size s_p1_lineCount s_p1_near s_p1_sets s_p1_through s_p2_there s_p2_kind s_p2_tag s_p2_size s_p2_lineCount s_p2_near s_p2_sets s_p2_through) (fun (u : (Int32) × (Nat → Int64)) => Q u.1 u.2) (fun (u : (Int32) × (Nat → Int64)) => (cl_X2_open T o_p0 a_p0 o_p1 a_p1 o_p2 a_p2 s_p0_depth s_p0_tryCount s_p0_isSpent u.1 s_p0_images u.2 s_p0_used s_p1_there s_p1_kind s_p1_tag s_p1_size s_p1_lineCount s_p1_near s_p1_sets s_p1_through s_p2_there s_p2_kind s_p2_tag s_p2_size s_p2_lineCount s_p2_near s_p2_sets s_p2_through)) := by
  refine vC_v (cc := cX2_open) (nL := 7) (by decide +kernel) rfl ⟨rfl, rfl⟩ (Nat.le_of_ble_eq_true rfl) rfl ?_
  intro E el eD X r
  unfold w_X2_open at h
  refine v_aload_n X 0 dX2_open_0 rfl rfl ?_
  refine v_get X 0 2 (F := TX2) (N := 7) iX2_open_X2 rfl rfl (by decide) (List.mem_of_getElem? (i := 1) rfl) rfl rfl dX2_open_1 ?_
  refine v_aload_n X 0 dX2_open_4 rfl rfl ?_
  refine v_get X 0 3 (F := TX2) (N := 7) iX2_open_X2 rfl rfl (by decide) (List.mem_of_getElem? (i := 2) rfl) rfl rfl dX2_open_5 ?_
  refine v_lconst X dX2_open_8 (v := (0 : Int64)) (by decide) ?_
  refine v_last X (ws' := (cl_X2_open T o_p0 a_p0 o_p1 a_p1 o_p2 a_p2 s_p0_depth s_p0_tryCount s_p0_isSpent s_p0_isFound s_p0_images (vp_updL s_p0_left (s_p0_depth).toNatClampNeg (0 : Int64)) s_p0_used s_p1_there s_p1_kind s_p1_tag s_p1_size s_p1_lineCount s_p1_near s_p1_sets s_p1_through s_p2_there s_p2_kind s_p2_tag s_p2_size s_p2_lineCount s_p2_near s_p2_sets s_p2_through)) 2 1 rfl rfl h.1 rfl dX2_open_9 ?_
  replace h := h.2
  refine v_aload_n X 0 dX2_open_10 rfl rfl ?_
  refine v_get X 0 3 (F := TX2) (N := 7) iX2_open_X2 rfl rfl (by decide) (List.mem_of_getElem? (i := 2) rfl) rfl rfl dX2_open_11 ?_
  refine v_aload_n X 1 dX2_open_14 rfl rfl ?_
  refine v_getN X 4 6 (F := TX5) (N := 8) iX2_open_X5 rfl rfl (by decide) (List.mem_of_getElem? (i := 27) rfl) rfl rfl dX2_open_15 ?_
  refine v_icmp_ne X (tgt := 32) dX2_open_18 (by decide) (fun c_18 => ?_) (fun c_18 => ?_)
  · replace h := h.1 c_18
    refine v_aload_n X 0 dX2_open_32 rfl rfl ?_
    refine v_aload_n X 1 dX2_open_33 rfl rfl ?_
    refine v_getN X 4 2 (F := TX5) (N := 8) iX2_open_X5 rfl rfl (by decide) (List.mem_of_getElem? (i := 21) rfl) rfl rfl dX2_open_34 ?_
    refine v_aload_n X 0 dX2_open_37 rfl rfl ?_
    refine v_get X 0 3 (F := TX2) (N := 7) iX2_open_X2 rfl rfl (by decide) (List.mem_of_getElem? (i := 2) rfl) rfl rfl dX2_open_38 ?_
    refine v_lald X 5 1 rfl rfl h.1 dX2_open_41 ?_
    replace h := h.2
    refine v_aload_n X 0 dX2_open_42 rfl rfl ?_
    refine v_get X 0 3 (F := TX2) (N := 7) iX2_open_X2 rfl rfl (by decide) (List.mem_of_getElem? (i := 2) rfl) rfl rfl dX2_open_43 ?_
    refine v_callNl0 X (As := [.int s_p0_depth]) (rest := [.long (s_p1_near (s_p0_depth).toNatClampNeg), .ref o_p0]) 1 (c_X6_below (l := vl E) (D := vD E) (T := T) (x_0 := s_p0_depth) h) gX2_open_X6_below_n65 (List.mem_of_getElem? (i := 45) rfl) (List.mem_of_getElem? (i := 12) rfl) (List.mem_of_getElem? (i := 11) rfl) rfl rfl (by decide +kernel) ⟨Nat.zero_le _, Nat.zero_le _⟩ ⟨rfl, rfl, by decide, by decide⟩ (Nat.le_of_ble_eq_true rfl) rfl dX2_open_46 (fun r_46 h => ?_)
    refine v_land X dX2_open_49 ?_
    refine v_aload_n X 0 dX2_open_50 rfl rfl ?_
    refine v_get X 0 3 (F := TX2) (N := 7) iX2_open_X2 rfl rfl (by decide) (List.mem_of_getElem? (i := 2) rfl) rfl rfl dX2_open_51 ?_
    refine v_callVl X (As := [.long ((s_p1_near (s_p0_depth).toNatClampNeg) &&& r_46), .int s_p0_depth]) (rest := []) 2 0 (c_X2_imageOf (l := vl E) (D := vD E) (T := T) (o_p0 := o_p0) (a_p0 := a_p0) (s_p0_depth := s_p0_depth) (s_p0_tryCount := s_p0_tryCount) (s_p0_isSpent := s_p0_isSpent) (s_p0_isFound := s_p0_isFound) (s_p0_images := s_p0_images) (x_1 := ((s_p1_near (s_p0_depth).toNatClampNeg) &&& r_46)) (x_3 := s_p0_depth) h) gX2_open_X2_imageOf rfl rfl (by decide +kernel) ⟨Nat.zero_le _, Nat.zero_le _⟩ ⟨rfl, rfl, by decide, by decide⟩ (Nat.le_of_ble_eq_true rfl) rfl rfl (wr := [vJ T (a_p0 2) 46 (vp_updL s_p0_left (s_p0_depth).toNatClampNeg (0 : Int64)), vJ T (a_p0 1) 46 s_p0_used, vO o_p1 2 [.ref (a_p1 0), .ref (a_p1 1), .ref (a_p1 2), .int s_p1_there, .int s_p1_kind, .int s_p1_tag, .int s_p1_size, .int s_p1_lineCount], vJ T (a_p1 2) 45 s_p1_near, vJ T (a_p1 0) 45 s_p1_sets, vJ T (a_p1 1) 45 s_p1_through, vO o_p2 2 [.ref (a_p2 0), .ref (a_p2 1), .ref (a_p2 2), .int s_p2_there, .int s_p2_kind, .int s_p2_tag, .int s_p2_size, .int s_p2_lineCount], vJ T (a_p2 2) 45 s_p2_near, vJ T (a_p2 0) 45 s_p2_sets, vJ T (a_p2 1) 45 s_p2_through]) [0, 1] [2, 3, 4, 5, 6, 7, 8, 9, 10, 11] rfl rfl rfl rfl (by decide) rfl dX2_open_54 (fun r_54 u h => ?_)
    refine v_ws (ws' := (cl_X2_open T o_p0 a_p0 o_p1 a_p1 o_p2 a_p2 s_p0_depth s_p0_tryCount s_p0_isSpent s_p0_isFound s_p0_images (vp_updL s_p0_left (s_p0_depth).toNatClampNeg (0 : Int64)) s_p0_used s_p1_there s_p1_kind s_p1_tag s_p1_size s_p1_lineCount s_p1_near s_p1_sets s_p1_through s_p2_there s_p2_kind s_p2_tag s_p2_size s_p2_lineCount s_p2_near s_p2_sets s_p2_through)) [10, 11, 0, 1, 2, 3, 4, 5, 6, 7, 8, 9] rfl rfl ?_
    refine v_lstore_n X (lv' := [(3, .long r_54), (0, .ref o_p0), (1, .ref o_p1), (2, .ref o_p2)]) dX2_open_57 rfl (by decide) rfl ?_
    refine v_aload_n X 2 dX2_open_58 rfl rfl ?_
    refine v_getN X 4 1 (F := TX5) (N := 8) iX2_open_X5 rfl rfl (by decide) (List.mem_of_getElem? (i := 16) rfl) rfl rfl dX2_open_59 ?_
    refine v_aload_n X 1 dX2_open_62 rfl rfl ?_
    refine v_get X 0 3 (F := TX2) (N := 7) iX2_open_X2 rfl rfl (by decide) (List.mem_of_getElem? (i := 2) rfl) rfl rfl dX2_open_63 ?_
    refine v_lald X 7 1 rfl rfl h.1 dX2_open_66 ?_
    replace h := h.2
    refine v_callSi0 X (As := [.long (s_p1_through (s_p0_depth).toNatClampNeg)]) (rest := []) 1 (c_J13_bitCount_95d88 (l := vl E) (D := vD E) (T := T) (x_0 := (s_p1_through (s_p0_depth).toNatClampNeg)) h) gX2_open_J13_bitCount_95d88 rfl rfl (by decide +kernel) ⟨Nat.zero_le _, Nat.zero_le _⟩ ⟨rfl, rfl, by decide, by decide⟩ (Nat.le_of_ble_eq_true rfl) rfl dX2_open_67 (fun r_67 h => ?_)
    refine v_istore X (lv' := [(5, .int r_67), (3, .long r_54), (0, .ref o_p0), (1, .ref o_p1), (2, .ref o_p2)]) dX2_open_70 (by decide) rfl ?_
    refine v_iconst X dX2_open_72 (v := (0 : Int32)) (by decide) ?_
    refine v_istore X (lv' := [(6, .int (0 : Int32)), (5, .int r_67), (3, .long r_54), (0, .ref o_p0), (1, .ref o_p1), (2, .ref o_p2)]) dX2_open_73 (by decide) rfl ?_
    refine v_lv (lv' := [(0, .ref o_p0), (2, .ref o_p2), (3, .long r_54), (5, .int r_67), (6, .int (0 : Int32))]) [3, 5, 2, 1, 0] rfl ?_
    obtain ⟨n_, h⟩ := h
    exact k_X2_open_75 X r n_ _ _ h
  · replace h := h.2 c_18
    refine v_aload_n X 0 dX2_open_21 rfl rfl ?_
    refine v_aload_n X 0 dX2_open_22 rfl rfl ?_
    refine v_aload_n X 1 dX2_open_23 rfl rfl ?_
    refine v_aload_n X 2 dX2_open_24 rfl rfl ?_
    refine v_callVi X (As := [.ref o_p1, .ref o_p2]) (rest := [.ref o_p0]) 2 0 (c_X2_linesFit (l := vl E) (D := vD E) (T := T) (o_p0 := o_p0) (a_p0 := a_p0) (o_p1 := o_p1) (a_p1 := a_p1) (o_p2 := o_p2) (a_p2 := a_p2) (s_p0_depth := s_p0_depth) (s_p0_tryCount := s_p0_tryCount) (s_p0_isSpent := s_p0_isSpent) (s_p0_isFound := s_p0_isFound) (s_p0_images := s_p0_images) (s_p1_there := s_p1_there) (s_p1_kind := s_p1_kind) (s_p1_tag := s_p1_tag) (s_p1_size := s_p1_size) (s_p1_lineCount := s_p1_lineCount) (s_p1_sets := s_p1_sets) (s_p2_there := s_p2_there) (s_p2_kind := s_p2_kind) (s_p2_tag := s_p2_tag) (s_p2_size := s_p2_size) (s_p2_lineCount := s_p2_lineCount) (s_p2_sets := s_p2_sets) h) gX2_open_X2_linesFit rfl rfl (by decide +kernel) ⟨Nat.zero_le _, Nat.zero_le _⟩ ⟨rfl, rfl, by decide, by decide⟩ (Nat.le_of_ble_eq_true rfl) rfl rfl (wr := [vJ T (a_p0 2) 46 (vp_updL s_p0_left (s_p0_depth).toNatClampNeg (0 : Int64)), vJ T (a_p0 1) 46 s_p0_used, vJ T (a_p1 2) 45 s_p1_near, vJ T (a_p1 1) 45 s_p1_through, vJ T (a_p2 2) 45 s_p2_near, vJ T (a_p2 1) 45 s_p2_through]) [0, 1, 4, 6, 8, 10] [2, 3, 5, 7, 9, 11] rfl rfl rfl rfl (by decide) rfl dX2_open_25 (fun r_25 u h => ?_)
    refine v_ws (ws' := (cl_X2_open T o_p0 a_p0 o_p1 a_p1 o_p2 a_p2 s_p0_depth s_p0_tryCount s_p0_isSpent s_p0_isFound s_p0_images (vp_updL s_p0_left (s_p0_depth).toNatClampNeg (0 : Int64)) s_p0_used s_p1_there s_p1_kind s_p1_tag s_p1_size s_p1_lineCount s_p1_near s_p1_sets s_p1_through s_p2_there s_p2_kind s_p2_tag s_p2_size s_p2_lineCount s_p2_near s_p2_sets s_p2_through)) [6, 7, 0, 1, 8, 2, 9, 3, 10, 4, 11, 5] rfl rfl ?_
    refine v_put X (ws' := (cl_X2_open T o_p0 a_p0 o_p1 a_p1 o_p2 a_p2 s_p0_depth s_p0_tryCount s_p0_isSpent r_25 s_p0_images (vp_updL s_p0_left (s_p0_depth).toNatClampNeg (0 : Int64)) s_p0_used s_p1_there s_p1_kind s_p1_tag s_p1_size s_p1_lineCount s_p1_near s_p1_sets s_p1_through s_p2_there s_p2_kind s_p2_tag s_p2_size s_p2_lineCount s_p2_near s_p2_sets s_p2_through)) 0 6 (F := TX2) (N := 7) iX2_open_X2 rfl tyX2 tyX2_ok nmX2 rfl (by decide) (List.mem_of_getElem? (i := 3) rfl) rfl rfl rfl (vz_nar h.1) (vz_fits h.1) (Nat.le_of_ble_eq_true rfl) rfl dX2_open_28 ?_
    replace h := h.2
    exact r _ _ (r_25, (vp_updL s_p0_left (s_p0_depth).toNatClampNeg (0 : Int64))) _ dX2_open_31 h rfl
abbrev cl_X2_open_a (T : Nat → ClassId) (o_p0 : Nat) (a_p0 : Nat → Nat) (o_p1 : Nat) (a_p1 : Nat → Nat) (s_p0_depth : Int32) (s_p0_tryCount : Int32) (s_p0_isSpent : Int32) (s_p0_isFound : Int32) (s_p0_images : Nat → Int32) (s_p0_left : Nat → Int64) (s_p0_used : Nat → Int64) (s_p1_there : Int32) (s_p1_kind : Int32) (s_p1_tag : Int32) (s_p1_size : Int32) (s_p1_lineCount : Int32) (s_p1_near : Nat → Int64) (s_p1_sets : Nat → Int64) (s_p1_through : Nat → Int64) : va_W := [vO o_p0 0 [.ref (a_p0 0), .ref (a_p0 1), .ref (a_p0 2), .int s_p0_depth, .int s_p0_tryCount, .int s_p0_isSpent, .int s_p0_isFound], vI T (a_p0 0) 45 s_p0_images, vJ T (a_p0 2) 46 s_p0_left, vJ T (a_p0 1) 46 s_p0_used, vO o_p1 2 [.ref (a_p1 0), .ref (a_p1 1), .ref (a_p1 2), .int s_p1_there, .int s_p1_kind, .int s_p1_tag, .int s_p1_size, .int s_p1_lineCount], vJ T (a_p1 2) 45 s_p1_near, vJ T (a_p1 0) 45 s_p1_sets, vJ T (a_p1 1) 45 s_p1_through]
abbrev r_X2_open_a (E : vE) (T : Nat → ClassId) (o_p0 : Nat) (a_p0 : Nat → Nat) (o_p1 : Nat) (a_p1 : Nat → Nat) (s_p0_depth : Int32) (s_p0_tryCount : Int32) (s_p0_isSpent : Int32) (s_p0_images : Nat → Int32) (s_p0_used : Nat → Int64) (s_p1_there : Int32) (s_p1_kind : Int32) (s_p1_tag : Int32) (s_p1_size : Int32) (s_p1_lineCount : Int32) (s_p1_near : Nat → Int64) (s_p1_sets : Nat → Int64) (s_p1_through : Nat → Int64) (Q : (Int32) → (Nat → Int64) → Prop) : Prop := vRv E cX2_open (fun (u : (Int32) × (Nat → Int64)) => Q u.1 u.2) (fun (u : (Int32) × (Nat → Int64)) => (cl_X2_open_a T o_p0 a_p0 o_p1 a_p1 s_p0_depth s_p0_tryCount s_p0_isSpent u.1 s_p0_images u.2 s_p0_used s_p1_there s_p1_kind s_p1_tag s_p1_size s_p1_lineCount s_p1_near s_p1_sets s_p1_through))
set_option maxHeartbeats 4000000 in
set_option maxRecDepth 100000 in
theorem k_X2_open_154_a {E : vE} {T : Nat → ClassId} {o_p0 : Nat} {a_p0 : Nat → Nat} {o_p1 : Nat} {a_p1 : Nat → Nat} {s_p0_depth : Int32} {s_p0_tryCount : Int32} {s_p0_isSpent : Int32} {s_p0_isFound : Int32} {s_p0_images : Nat → Int32} {s_p0_left : Nat → Int64} {s_p0_used : Nat → Int64} {s_p1_there : Int32} {s_p1_kind : Int32} {s_p1_tag : Int32} {s_p1_size : Int32} {s_p1_lineCount : Int32} {s_p1_near : Nat → Int64} {s_p1_sets : Nat → Int64} {s_p1_through : Nat → Int64} {x_3 : Int64} {x_5 : Int32} {x_6 : Int32} {K_75 : (Int32) → (Nat → Int64) → Prop} {Q : (Int32) → (Nat → Int64) → Prop} (X : vX E cX2_open 7 RX2 wsX2_open (vT T) (vr 3 74)) (r : r_X2_open_a E T o_p0 a_p0 o_p1 a_p1 s_p0_depth s_p0_tryCount s_p0_isSpent s_p0_images s_p0_used s_p1_there s_p1_kind s_p1_tag s_p1_size s_p1_lineCount s_p1_near s_p1_sets s_p1_through Q) (hK_75 : ∀ (x_6' : Int32) (s_p0_left' : Nat → Int64), K_75 x_6' s_p0_left' → V E 0 0 75 [(0, .ref o_p0), (2, .ref o_p1), (3, .long x_3), (5, .int x_5), (6, .int x_6')] [] (cl_X2_open_a T o_p0 a_p0 o_p1 a_p1 s_p0_depth s_p0_tryCount s_p0_isSpent s_p0_isFound s_p0_images s_p0_left' s_p0_used s_p1_there s_p1_kind s_p1_tag s_p1_size s_p1_lineCount s_p1_near s_p1_sets s_p1_through)) (h : w_X2_open_154 x_3 x_5 x_6 s_p0_depth s_p0_isFound s_p0_images s_p0_left s_p0_used s_p1_size s_p1_lineCount s_p1_near s_p1_sets s_p1_through s_p1_size s_p1_lineCount s_p1_near s_p1_sets s_p1_through K_75 Q) : V E 0 0 154 [(0, .ref o_p0), (2, .ref o_p1), (3, .long x_3), (5, .int x_5), (6, .int x_6)] [] (cl_X2_open_a T o_p0 a_p0 o_p1 a_p1 s_p0_depth s_p0_tryCount s_p0_isSpent s_p0_isFound s_p0_images s_p0_left s_p0_used s_p1_there s_p1_kind s_p1_tag s_p1_size s_p1_lineCount s_p1_near s_p1_sets s_p1_through) := by
  unfold w_X2_open_154 at h
  refine v_iinc X (v := (x_6 + (1 : Int32))) (lv' := [(6, .int (x_6 + (1 : Int32))), (0, .ref o_p0), (2, .ref o_p1), (3, .long x_3), (5, .int x_5)]) 4 dX2_open_154 rfl rfl (by decide) rfl ?_
  refine v_goto X (tgt := 75) dX2_open_157 (by decide) ?_
  refine v_lv (lv' := [(0, .ref o_p0), (2, .ref o_p1), (3, .long x_3), (5, .int x_5), (6, .int (x_6 + (1 : Int32)))]) [1, 2, 3, 4, 0] rfl ?_
  exact hK_75 _ _ h
set_option maxHeartbeats 4000000 in
set_option maxRecDepth 100000 in
theorem k_X2_open_75_a {E : vE} {T : Nat → ClassId} {o_p0 : Nat} {a_p0 : Nat → Nat} {o_p1 : Nat} {a_p1 : Nat → Nat} {s_p0_depth : Int32} {s_p0_tryCount : Int32} {s_p0_isSpent : Int32} {s_p0_isFound : Int32} {s_p0_images : Nat → Int32} {s_p0_used : Nat → Int64} {s_p1_there : Int32} {s_p1_kind : Int32} {s_p1_tag : Int32} {s_p1_size : Int32} {s_p1_lineCount : Int32} {s_p1_near : Nat → Int64} {s_p1_sets : Nat → Int64} {s_p1_through : Nat → Int64} {x_3 : Int64} {x_5 : Int32} {Q : (Int32) → (Nat → Int64) → Prop} (X : vX E cX2_open 7 RX2 wsX2_open (vT T) (vr 3 74)) (r : r_X2_open_a E T o_p0 a_p0 o_p1 a_p1 s_p0_depth s_p0_tryCount s_p0_isSpent s_p0_images s_p0_used s_p1_there s_p1_kind s_p1_tag s_p1_size s_p1_lineCount s_p1_near s_p1_sets s_p1_through Q) : ∀ (n_ : Nat) (x_6 : Int32) (s_p0_left : Nat → Int64), w_X2_open_75 x_3 x_5 s_p0_depth s_p0_isFound s_p0_images s_p0_used s_p1_size s_p1_lineCount s_p1_near s_p1_sets s_p1_through s_p1_size s_p1_lineCount s_p1_near s_p1_sets s_p1_through Q n_ x_6 s_p0_left → V E 0 0 75 [(0, .ref o_p0), (2, .ref o_p1), (3, .long x_3), (5, .int x_5), (6, .int x_6)] [] (cl_X2_open_a T o_p0 a_p0 o_p1 a_p1 s_p0_depth s_p0_tryCount s_p0_isSpent s_p0_isFound s_p0_images s_p0_left s_p0_used s_p1_there s_p1_kind s_p1_tag s_p1_size s_p1_lineCount s_p1_near s_p1_sets s_p1_through) := by
  intro n_
  induction n_ with
  | zero => intro x_6 s_p0_left h; exact h.elim
  | succ n_ hK_75 =>
    intro x_6 s_p0_left h
    replace h : w_X2_open_75s x_3 x_5 s_p0_depth s_p0_isFound s_p0_images s_p0_used s_p1_size s_p1_lineCount s_p1_near s_p1_sets s_p1_through s_p1_size s_p1_lineCount s_p1_near s_p1_sets s_p1_through Q (w_X2_open_75 x_3 x_5 s_p0_depth s_p0_isFound s_p0_images s_p0_used s_p1_size s_p1_lineCount s_p1_near s_p1_sets s_p1_through s_p1_size s_p1_lineCount s_p1_near s_p1_sets s_p1_through Q n_) x_6 s_p0_left := h
    unfold w_X2_open_75s at h
    refine v_iload X 4 dX2_open_75 rfl ?_
    refine v_aload_n X 1 dX2_open_77 rfl rfl ?_
    refine v_getN X 4 6 (F := TX5) (N := 8) iX2_open_X5 rfl rfl (by decide) (List.mem_of_getElem? (i := 27) rfl) rfl rfl dX2_open_78 ?_
    refine v_icmp_ge X (tgt := 160) dX2_open_81 (by decide) (fun c_81 => ?_) (fun c_81 => ?_)
    · replace h := h.1 c_81
      exact r _ _ (s_p0_isFound, s_p0_left) _ dX2_open_160 h rfl
    · replace h := h.2 c_81
      refine v_aload_n X 0 dX2_open_84 rfl rfl ?_
      refine v_get X 0 1 (F := TX2) (N := 7) iX2_open_X2 rfl rfl (by decide) (List.mem_of_getElem? (i := 4) rfl) rfl rfl dX2_open_85 ?_
      refine v_aload_n X 0 dX2_open_88 rfl rfl ?_
      refine v_get X 0 3 (F := TX2) (N := 7) iX2_open_X2 rfl rfl (by decide) (List.mem_of_getElem? (i := 2) rfl) rfl rfl dX2_open_89 ?_
      refine v_lald X 3 1 rfl rfl h.1 dX2_open_92 ?_
      replace h := h.2
      refine v_iload X 4 dX2_open_93 rfl ?_
      refine v_callNi0 X (As := [.long (s_p0_used (s_p0_depth).toNatClampNeg), .int x_6]) (rest := []) 2 (c_X6_has (l := vl E) (D := vD E) (T := T) (x_0 := (s_p0_used (s_p0_depth).toNatClampNeg)) (x_2 := x_6) h) gX2_open_X6_has_n81 (List.mem_of_getElem? (i := 46) rfl) (List.mem_of_getElem? (i := 12) rfl) (List.mem_of_getElem? (i := 19) rfl) rfl rfl (by decide +kernel) ⟨Nat.zero_le _, Nat.zero_le _⟩ ⟨rfl, rfl, by decide, by decide⟩ (Nat.le_of_ble_eq_true rfl) rfl dX2_open_95 (fun r_95 h => ?_)
      refine v_if_ne X (tgt := 154) dX2_open_98 (by decide) (fun c_98 => ?_) (fun c_98 => ?_)
      · replace h := h.1 c_98
        exact k_X2_open_154_a X r hK_75 h
      · replace h := h.2 c_98
        refine v_aload_n X 1 dX2_open_101 rfl rfl ?_
        refine v_getN X 4 1 (F := TX5) (N := 8) iX2_open_X5 rfl rfl (by decide) (List.mem_of_getElem? (i := 16) rfl) rfl rfl dX2_open_102 ?_
        refine v_iload X 4 dX2_open_105 rfl ?_
        refine v_lald X 7 1 rfl rfl h.1 dX2_open_107 ?_
        replace h := h.2
        refine v_callSi0 X (As := [.long (s_p1_through (x_6).toNatClampNeg)]) (rest := []) 1 (c_J13_bitCount_95d88 (l := vl E) (D := vD E) (T := T) (x_0 := (s_p1_through (x_6).toNatClampNeg)) h) gX2_open_J13_bitCount_95d88 rfl rfl (by decide +kernel) ⟨Nat.zero_le _, Nat.zero_le _⟩ ⟨rfl, rfl, by decide, by decide⟩ (Nat.le_of_ble_eq_true rfl) rfl dX2_open_108 (fun r_108 h => ?_)
        refine v_iload X 3 dX2_open_111 rfl ?_
        refine v_icmp_ne X (tgt := 154) dX2_open_113 (by decide) (fun c_113 => ?_) (fun c_113 => ?_)
        · replace h := h.1 c_113
          exact k_X2_open_154_a X r hK_75 h
        · replace h := h.2 c_113
          refine v_aload_n X 1 dX2_open_116 rfl rfl ?_
          refine v_getN X 4 2 (F := TX5) (N := 8) iX2_open_X5 rfl rfl (by decide) (List.mem_of_getElem? (i := 21) rfl) rfl rfl dX2_open_117 ?_
          refine v_iload X 4 dX2_open_120 rfl ?_
          refine v_lald X 5 1 rfl rfl h.1 dX2_open_122 ?_
          replace h := h.2
          refine v_aload_n X 0 dX2_open_123 rfl rfl ?_
          refine v_get X 0 1 (F := TX2) (N := 7) iX2_open_X2 rfl rfl (by decide) (List.mem_of_getElem? (i := 4) rfl) rfl rfl dX2_open_124 ?_
          refine v_aload_n X 0 dX2_open_127 rfl rfl ?_
          refine v_get X 0 3 (F := TX2) (N := 7) iX2_open_X2 rfl rfl (by decide) (List.mem_of_getElem? (i := 2) rfl) rfl rfl dX2_open_128 ?_
          refine v_lald X 3 1 rfl rfl h.1 dX2_open_131 ?_
          replace h := h.2
          refine v_land X dX2_open_132 ?_
          refine v_lload_n X 2 dX2_open_133 rfl rfl ?_
          refine v_lcmp X dX2_open_134 ?_
          refine v_if_ne X (tgt := 154) dX2_open_135 (by decide) (fun c_135 => ?_) (fun c_135 => ?_)
          · replace h := h.1 c_135
            exact k_X2_open_154_a X r hK_75 h
          · replace h := h.2 c_135
            refine v_aload_n X 0 dX2_open_138 rfl rfl ?_
            refine v_get X 0 2 (F := TX2) (N := 7) iX2_open_X2 rfl rfl (by decide) (List.mem_of_getElem? (i := 1) rfl) rfl rfl dX2_open_139 ?_
            refine v_aload_n X 0 dX2_open_142 rfl rfl ?_
            refine v_get X 0 3 (F := TX2) (N := 7) iX2_open_X2 rfl rfl (by decide) (List.mem_of_getElem? (i := 2) rfl) rfl rfl dX2_open_143 ?_
            refine v_dup2_11 X dX2_open_146 rfl rfl ?_
            refine v_lald X 2 1 rfl rfl h.1 dX2_open_147 ?_
            replace h := h.2
            refine v_lconst X dX2_open_148 (v := (1 : Int64)) (by decide) ?_
            refine v_iload X 4 dX2_open_149 rfl ?_
            refine v_lshl X dX2_open_151 ?_
            refine v_lor X dX2_open_152 ?_
            refine v_last X (ws' := (cl_X2_open_a T o_p0 a_p0 o_p1 a_p1 s_p0_depth s_p0_tryCount s_p0_isSpent s_p0_isFound s_p0_images (vp_updL s_p0_left (s_p0_depth).toNatClampNeg ((s_p0_left (s_p0_depth).toNatClampNeg) ||| (vshl (1 : Int64) x_6))) s_p0_used s_p1_there s_p1_kind s_p1_tag s_p1_size s_p1_lineCount s_p1_near s_p1_sets s_p1_through)) 2 1 rfl rfl h.1 rfl dX2_open_153 ?_
            replace h := h.2
            exact k_X2_open_154_a X r hK_75 h
set_option maxHeartbeats 4000000 in
set_option maxRecDepth 100000 in
theorem c_X2_open_a {l : Launch} {D : va_G} {T : Nat → ClassId} {o_p0 : Nat} {a_p0 : Nat → Nat} {o_p1 : Nat} {a_p1 : Nat → Nat} {s_p0_depth : Int32} {s_p0_tryCount : Int32} {s_p0_isSpent : Int32} {s_p0_isFound : Int32} {s_p0_images : Nat → Int32} {s_p0_left : Nat → Int64} {s_p0_used : Nat → Int64} {s_p1_there : Int32} {s_p1_kind : Int32} {s_p1_tag : Int32} {s_p1_size : Int32} {s_p1_lineCount : Int32} {s_p1_near : Nat → Int64} {s_p1_sets : Nat → Int64} {s_p1_through : Nat → Int64} {Q : (Int32) → (Nat → Int64) → Prop} (h : w_X2_open s_p0_depth s_p0_isFound s_p0_images s_p0_left s_p0_used s_p1_size s_p1_lineCount s_p1_near s_p1_sets s_p1_through s_p1_size s_p1_lineCount s_p1_near s_p1_sets s_p1_through Q) : vCv l D (vT T) yX2_open wsX2_open (vr 3 74) [.ref o_p0, .ref o_p1, .ref o_p1] (cl_X2_open_a T o_p0 a_p0 o_p1 a_p1 s_p0_depth s_p0_tryCount s_p0_isSpent s_p0_isFound s_p0_images s_p0_left s_p0_used s_p1_there s_p1_kind s_p1_tag s_p1_size s_p1_lineCount s_p1_near s_p1_sets s_p1_through) (fun (u : (Int32) × (Nat → Int64)) => Q u.1 u.2) (fun (u : (Int32) × (Nat → Int64)) => (cl_X2_open_a T o_p0 a_p0 o_p1 a_p1 s_p0_depth s_p0_tryCount s_p0_isSpent u.1 s_p0_images u.2 s_p0_used s_p1_there s_p1_kind s_p1_tag s_p1_size s_p1_lineCount s_p1_near s_p1_sets s_p1_through)) := by
  refine vC_v (cc := cX2_open) (nL := 7) (by decide +kernel) rfl ⟨rfl, rfl⟩ (Nat.le_of_ble_eq_true rfl) rfl ?_
  intro E el eD X r
  unfold w_X2_open at h
  refine v_aload_n X 0 dX2_open_0 rfl rfl ?_
  refine v_get X 0 2 (F := TX2) (N := 7) iX2_open_X2 rfl rfl (by decide) (List.mem_of_getElem? (i := 1) rfl) rfl rfl dX2_open_1 ?_
  refine v_aload_n X 0 dX2_open_4 rfl rfl ?_
  refine v_get X 0 3 (F := TX2) (N := 7) iX2_open_X2 rfl rfl (by decide) (List.mem_of_getElem? (i := 2) rfl) rfl rfl dX2_open_5 ?_
  refine v_lconst X dX2_open_8 (v := (0 : Int64)) (by decide) ?_
  refine v_last X (ws' := (cl_X2_open_a T o_p0 a_p0 o_p1 a_p1 s_p0_depth s_p0_tryCount s_p0_isSpent s_p0_isFound s_p0_images (vp_updL s_p0_left (s_p0_depth).toNatClampNeg (0 : Int64)) s_p0_used s_p1_there s_p1_kind s_p1_tag s_p1_size s_p1_lineCount s_p1_near s_p1_sets s_p1_through)) 2 1 rfl rfl h.1 rfl dX2_open_9 ?_
  replace h := h.2
  refine v_aload_n X 0 dX2_open_10 rfl rfl ?_
  refine v_get X 0 3 (F := TX2) (N := 7) iX2_open_X2 rfl rfl (by decide) (List.mem_of_getElem? (i := 2) rfl) rfl rfl dX2_open_11 ?_
  refine v_aload_n X 1 dX2_open_14 rfl rfl ?_
  refine v_getN X 4 6 (F := TX5) (N := 8) iX2_open_X5 rfl rfl (by decide) (List.mem_of_getElem? (i := 27) rfl) rfl rfl dX2_open_15 ?_
  refine v_icmp_ne X (tgt := 32) dX2_open_18 (by decide) (fun c_18 => ?_) (fun c_18 => ?_)
  · replace h := h.1 c_18
    refine v_aload_n X 0 dX2_open_32 rfl rfl ?_
    refine v_aload_n X 1 dX2_open_33 rfl rfl ?_
    refine v_getN X 4 2 (F := TX5) (N := 8) iX2_open_X5 rfl rfl (by decide) (List.mem_of_getElem? (i := 21) rfl) rfl rfl dX2_open_34 ?_
    refine v_aload_n X 0 dX2_open_37 rfl rfl ?_
    refine v_get X 0 3 (F := TX2) (N := 7) iX2_open_X2 rfl rfl (by decide) (List.mem_of_getElem? (i := 2) rfl) rfl rfl dX2_open_38 ?_
    refine v_lald X 5 1 rfl rfl h.1 dX2_open_41 ?_
    replace h := h.2
    refine v_aload_n X 0 dX2_open_42 rfl rfl ?_
    refine v_get X 0 3 (F := TX2) (N := 7) iX2_open_X2 rfl rfl (by decide) (List.mem_of_getElem? (i := 2) rfl) rfl rfl dX2_open_43 ?_
    refine v_callNl0 X (As := [.int s_p0_depth]) (rest := [.long (s_p1_near (s_p0_depth).toNatClampNeg), .ref o_p0]) 1 (c_X6_below (l := vl E) (D := vD E) (T := T) (x_0 := s_p0_depth) h) gX2_open_X6_below_n65 (List.mem_of_getElem? (i := 45) rfl) (List.mem_of_getElem? (i := 12) rfl) (List.mem_of_getElem? (i := 11) rfl) rfl rfl (by decide +kernel) ⟨Nat.zero_le _, Nat.zero_le _⟩ ⟨rfl, rfl, by decide, by decide⟩ (Nat.le_of_ble_eq_true rfl) rfl dX2_open_46 (fun r_46 h => ?_)
    refine v_land X dX2_open_49 ?_
    refine v_aload_n X 0 dX2_open_50 rfl rfl ?_
    refine v_get X 0 3 (F := TX2) (N := 7) iX2_open_X2 rfl rfl (by decide) (List.mem_of_getElem? (i := 2) rfl) rfl rfl dX2_open_51 ?_
    refine v_callVl X (As := [.long ((s_p1_near (s_p0_depth).toNatClampNeg) &&& r_46), .int s_p0_depth]) (rest := []) 2 0 (c_X2_imageOf (l := vl E) (D := vD E) (T := T) (o_p0 := o_p0) (a_p0 := a_p0) (s_p0_depth := s_p0_depth) (s_p0_tryCount := s_p0_tryCount) (s_p0_isSpent := s_p0_isSpent) (s_p0_isFound := s_p0_isFound) (s_p0_images := s_p0_images) (x_1 := ((s_p1_near (s_p0_depth).toNatClampNeg) &&& r_46)) (x_3 := s_p0_depth) h) gX2_open_X2_imageOf rfl rfl (by decide +kernel) ⟨Nat.zero_le _, Nat.zero_le _⟩ ⟨rfl, rfl, by decide, by decide⟩ (Nat.le_of_ble_eq_true rfl) rfl rfl (wr := [vJ T (a_p0 2) 46 (vp_updL s_p0_left (s_p0_depth).toNatClampNeg (0 : Int64)), vJ T (a_p0 1) 46 s_p0_used, vO o_p1 2 [.ref (a_p1 0), .ref (a_p1 1), .ref (a_p1 2), .int s_p1_there, .int s_p1_kind, .int s_p1_tag, .int s_p1_size, .int s_p1_lineCount], vJ T (a_p1 2) 45 s_p1_near, vJ T (a_p1 0) 45 s_p1_sets, vJ T (a_p1 1) 45 s_p1_through]) [0, 1] [2, 3, 4, 5, 6, 7] rfl rfl rfl rfl (by decide) rfl dX2_open_54 (fun r_54 u h => ?_)
    refine v_ws (ws' := (cl_X2_open_a T o_p0 a_p0 o_p1 a_p1 s_p0_depth s_p0_tryCount s_p0_isSpent s_p0_isFound s_p0_images (vp_updL s_p0_left (s_p0_depth).toNatClampNeg (0 : Int64)) s_p0_used s_p1_there s_p1_kind s_p1_tag s_p1_size s_p1_lineCount s_p1_near s_p1_sets s_p1_through)) [6, 7, 0, 1, 2, 3, 4, 5] rfl rfl ?_
    refine v_lstore_n X (lv' := [(3, .long r_54), (0, .ref o_p0), (1, .ref o_p1), (2, .ref o_p1)]) dX2_open_57 rfl (by decide) rfl ?_
    refine v_aload_n X 2 dX2_open_58 rfl rfl ?_
    refine v_getN X 4 1 (F := TX5) (N := 8) iX2_open_X5 rfl rfl (by decide) (List.mem_of_getElem? (i := 16) rfl) rfl rfl dX2_open_59 ?_
    refine v_aload_n X 1 dX2_open_62 rfl rfl ?_
    refine v_get X 0 3 (F := TX2) (N := 7) iX2_open_X2 rfl rfl (by decide) (List.mem_of_getElem? (i := 2) rfl) rfl rfl dX2_open_63 ?_
    refine v_lald X 7 1 rfl rfl h.1 dX2_open_66 ?_
    replace h := h.2
    refine v_callSi0 X (As := [.long (s_p1_through (s_p0_depth).toNatClampNeg)]) (rest := []) 1 (c_J13_bitCount_95d88 (l := vl E) (D := vD E) (T := T) (x_0 := (s_p1_through (s_p0_depth).toNatClampNeg)) h) gX2_open_J13_bitCount_95d88 rfl rfl (by decide +kernel) ⟨Nat.zero_le _, Nat.zero_le _⟩ ⟨rfl, rfl, by decide, by decide⟩ (Nat.le_of_ble_eq_true rfl) rfl dX2_open_67 (fun r_67 h => ?_)
    refine v_istore X (lv' := [(5, .int r_67), (3, .long r_54), (0, .ref o_p0), (1, .ref o_p1), (2, .ref o_p1)]) dX2_open_70 (by decide) rfl ?_
    refine v_iconst X dX2_open_72 (v := (0 : Int32)) (by decide) ?_
    refine v_istore X (lv' := [(6, .int (0 : Int32)), (5, .int r_67), (3, .long r_54), (0, .ref o_p0), (1, .ref o_p1), (2, .ref o_p1)]) dX2_open_73 (by decide) rfl ?_
    refine v_lv (lv' := [(0, .ref o_p0), (2, .ref o_p1), (3, .long r_54), (5, .int r_67), (6, .int (0 : Int32))]) [3, 5, 2, 1, 0] rfl ?_
    obtain ⟨n_, h⟩ := h
    exact k_X2_open_75_a X r n_ _ _ h
  · replace h := h.2 c_18
    refine v_aload_n X 0 dX2_open_21 rfl rfl ?_
    refine v_aload_n X 0 dX2_open_22 rfl rfl ?_
    refine v_aload_n X 1 dX2_open_23 rfl rfl ?_
    refine v_aload_n X 2 dX2_open_24 rfl rfl ?_
    refine v_callVi X (As := [.ref o_p1, .ref o_p1]) (rest := [.ref o_p0]) 2 0 (c_X2_linesFit_a (l := vl E) (D := vD E) (T := T) (o_p0 := o_p0) (a_p0 := a_p0) (o_p1 := o_p1) (a_p1 := a_p1) (s_p0_depth := s_p0_depth) (s_p0_tryCount := s_p0_tryCount) (s_p0_isSpent := s_p0_isSpent) (s_p0_isFound := s_p0_isFound) (s_p0_images := s_p0_images) (s_p1_there := s_p1_there) (s_p1_kind := s_p1_kind) (s_p1_tag := s_p1_tag) (s_p1_size := s_p1_size) (s_p1_lineCount := s_p1_lineCount) (s_p1_sets := s_p1_sets) h) gX2_open_X2_linesFit rfl rfl (by decide +kernel) ⟨Nat.zero_le _, Nat.zero_le _⟩ ⟨rfl, rfl, by decide, by decide⟩ (Nat.le_of_ble_eq_true rfl) rfl rfl (wr := [vJ T (a_p0 2) 46 (vp_updL s_p0_left (s_p0_depth).toNatClampNeg (0 : Int64)), vJ T (a_p0 1) 46 s_p0_used, vJ T (a_p1 2) 45 s_p1_near, vJ T (a_p1 1) 45 s_p1_through]) [0, 1, 4, 6] [2, 3, 5, 7] rfl rfl rfl rfl (by decide) rfl dX2_open_25 (fun r_25 u h => ?_)
    refine v_ws (ws' := (cl_X2_open_a T o_p0 a_p0 o_p1 a_p1 s_p0_depth s_p0_tryCount s_p0_isSpent s_p0_isFound s_p0_images (vp_updL s_p0_left (s_p0_depth).toNatClampNeg (0 : Int64)) s_p0_used s_p1_there s_p1_kind s_p1_tag s_p1_size s_p1_lineCount s_p1_near s_p1_sets s_p1_through)) [4, 5, 0, 1, 6, 2, 7, 3] rfl rfl ?_
    refine v_put X (ws' := (cl_X2_open_a T o_p0 a_p0 o_p1 a_p1 s_p0_depth s_p0_tryCount s_p0_isSpent r_25 s_p0_images (vp_updL s_p0_left (s_p0_depth).toNatClampNeg (0 : Int64)) s_p0_used s_p1_there s_p1_kind s_p1_tag s_p1_size s_p1_lineCount s_p1_near s_p1_sets s_p1_through)) 0 6 (F := TX2) (N := 7) iX2_open_X2 rfl tyX2 tyX2_ok nmX2 rfl (by decide) (List.mem_of_getElem? (i := 3) rfl) rfl rfl rfl (vz_nar h.1) (vz_fits h.1) (Nat.le_of_ble_eq_true rfl) rfl dX2_open_28 ?_
    replace h := h.2
    exact r _ _ (r_25, (vp_updL s_p0_left (s_p0_depth).toNatClampNeg (0 : Int64))) _ dX2_open_31 h rfl
-- X2_take
abbrev cl_X2_take (T : Nat → ClassId) (o_p0 : Nat) (a_p0 : Nat → Nat) (o_p1 : Nat) (a_p1 : Nat → Nat) (o_p2 : Nat) (a_p2 : Nat → Nat) (s_p0_depth : Int32) (s_p0_tryCount : Int32) (s_p0_isSpent : Int32) (s_p0_isFound : Int32) (s_p0_images : Nat → Int32) (s_p0_left : Nat → Int64) (s_p0_used : Nat → Int64) (s_p1_there : Int32) (s_p1_kind : Int32) (s_p1_tag : Int32) (s_p1_size : Int32) (s_p1_lineCount : Int32) (s_p1_near : Nat → Int64) (s_p1_sets : Nat → Int64) (s_p1_through : Nat → Int64) (s_p2_there : Int32) (s_p2_kind : Int32) (s_p2_tag : Int32) (s_p2_size : Int32) (s_p2_lineCount : Int32) (s_p2_near : Nat → Int64) (s_p2_sets : Nat → Int64) (s_p2_through : Nat → Int64) : va_W := [vO o_p0 0 [.ref (a_p0 0), .ref (a_p0 1), .ref (a_p0 2), .int s_p0_depth, .int s_p0_tryCount, .int s_p0_isSpent, .int s_p0_isFound], vI T (a_p0 0) 45 s_p0_images, vJ T (a_p0 2) 46 s_p0_left, vJ T (a_p0 1) 46 s_p0_used, vO o_p1 2 [.ref (a_p1 0), .ref (a_p1 1), .ref (a_p1 2), .int s_p1_there, .int s_p1_kind, .int s_p1_tag, .int s_p1_size, .int s_p1_lineCount], vJ T (a_p1 2) 45 s_p1_near, vJ T (a_p1 0) 45 s_p1_sets, vJ T (a_p1 1) 45 s_p1_through, vO o_p2 2 [.ref (a_p2 0), .ref (a_p2 1), .ref (a_p2 2), .int s_p2_there, .int s_p2_kind, .int s_p2_tag, .int s_p2_size, .int s_p2_lineCount], vJ T (a_p2 2) 45 s_p2_near, vJ T (a_p2 0) 45 s_p2_sets, vJ T (a_p2 1) 45 s_p2_through]
abbrev r_X2_take (E : vE) (T : Nat → ClassId) (o_p0 : Nat) (a_p0 : Nat → Nat) (o_p1 : Nat) (a_p1 : Nat → Nat) (o_p2 : Nat) (a_p2 : Nat → Nat) (s_p0_isSpent : Int32) (s_p1_there : Int32) (s_p1_kind : Int32) (s_p1_tag : Int32) (s_p1_size : Int32) (s_p1_lineCount : Int32) (s_p1_near : Nat → Int64) (s_p1_sets : Nat → Int64) (s_p1_through : Nat → Int64) (s_p2_there : Int32) (s_p2_kind : Int32) (s_p2_tag : Int32) (s_p2_size : Int32) (s_p2_lineCount : Int32) (s_p2_near : Nat → Int64) (s_p2_sets : Nat → Int64) (s_p2_through : Nat → Int64) (Q : (Int32) → (Int32) → (Int32) → (Nat → Int32) → (Nat → Int64) → (Nat → Int64) → Prop) : Prop := vRv E cX2_take (fun (u : (Int32) × (Int32) × (Int32) × (Nat → Int32) × (Nat → Int64) × (Nat → Int64)) => Q u.1 u.2.1 u.2.2.1 u.2.2.2.1 u.2.2.2.2.1 u.2.2.2.2.2) (fun (u : (Int32) × (Int32) × (Int32) × (Nat → Int32) × (Nat → Int64) × (Nat → Int64)) => (cl_X2_take T o_p0 a_p0 o_p1 a_p1 o_p2 a_p2 u.1 u.2.1 s_p0_isSpent u.2.2.1 u.2.2.2.1 u.2.2.2.2.1 u.2.2.2.2.2 s_p1_there s_p1_kind s_p1_tag s_p1_size s_p1_lineCount s_p1_near s_p1_sets s_p1_through s_p2_there s_p2_kind s_p2_tag s_p2_size s_p2_lineCount s_p2_near s_p2_sets s_p2_through))
def w_X2_take_109 (s_p0_depth : Int32) (s_p0_tryCount : Int32) (s_p0_isFound : Int32) (s_p0_images : Nat → Int32) (s_p0_left : Nat → Int64) (s_p0_used : Nat → Int64) (s_p1_size : Int32) (s_p1_lineCount : Int32) (s_p1_near : Nat → Int64) (s_p1_sets : Nat → Int64) (s_p1_through : Nat → Int64) (s_p2_size : Int32) (s_p2_lineCount : Int32) (s_p2_near : Nat → Int64) (s_p2_sets : Nat → Int64) (s_p2_through : Nat → Int64) (Q : (Int32) → (Int32) → (Int32) → (Nat → Int32) → (Nat → Int64) → (Nat → Int64) → Prop) : Prop := (Q s_p0_depth s_p0_tryCount s_p0_isFound s_p0_images s_p0_left s_p0_used)
def w_X2_take (s_p0_depth : Int32) (s_p0_tryCount : Int32) (s_p0_isFound : Int32) (s_p0_images : Nat → Int32) (s_p0_left : Nat → Int64) (s_p0_used : Nat → Int64) (s_p1_size : Int32) (s_p1_lineCount : Int32) (s_p1_near : Nat → Int64) (s_p1_sets : Nat → Int64) (s_p1_through : Nat → Int64) (s_p2_size : Int32) (s_p2_lineCount : Int32) (s_p2_near : Nat → Int64) (s_p2_sets : Nat → Int64) (s_p2_through : Nat → Int64) (Q : (Int32) → (Int32) → (Int32) → (Nat → Int32) → (Nat → Int64) → (Nat → Int64) → Prop) : Prop := (vp_in s_p0_depth 46 ∧ (w_X6_leastOf (s_p0_left (s_p0_depth).toNatClampNeg) (fun (r_9 : Int32) => (vp_in s_p0_depth 46 ∧ (vp_in s_p0_depth 46 ∧ (((45 : Int32) ≤ r_9 → (w_X2_take_109 s_p0_depth (s_p0_tryCount + (1 : Int32)) s_p0_isFound s_p0_images (vp_updL s_p0_left (s_p0_depth).toNatClampNeg ((s_p0_left (s_p0_depth).toNatClampNeg) &&& ((vshl (1 : Int64) r_9) ^^^ (-1 : Int64)))) s_p0_used s_p1_size s_p1_lineCount s_p1_near s_p1_sets s_p1_through s_p2_size s_p2_lineCount s_p2_near s_p2_sets s_p2_through Q)) ∧ (¬ (45 : Int32) ≤ r_9 → ((s_p1_size ≤ s_p0_depth → (w_X2_take_109 s_p0_depth (s_p0_tryCount + (1 : Int32)) s_p0_isFound s_p0_images (vp_updL s_p0_left (s_p0_depth).toNatClampNeg ((s_p0_left (s_p0_depth).toNatClampNeg) &&& ((vshl (1 : Int64) r_9) ^^^ (-1 : Int64)))) s_p0_used s_p1_size s_p1_lineCount s_p1_near s_p1_sets s_p1_through s_p2_size s_p2_lineCount s_p2_near s_p2_sets s_p2_through Q)) ∧ (¬ s_p1_size ≤ s_p0_depth → (vp_in s_p0_depth 45 ∧ (vp_in s_p0_depth 46 ∧ (vp_in (s_p0_depth + (1 : Int32)) 46 ∧ (w_X2_open (s_p0_depth + (1 : Int32)) s_p0_isFound (upd s_p0_images (s_p0_depth).toNatClampNeg r_9) (vp_updL s_p0_left (s_p0_depth).toNatClampNeg ((s_p0_left (s_p0_depth).toNatClampNeg) &&& ((vshl (1 : Int64) r_9) ^^^ (-1 : Int64)))) (vp_updL s_p0_used ((s_p0_depth + (1 : Int32))).toNatClampNeg ((s_p0_used (s_p0_depth).toNatClampNeg) ||| (vshl (1 : Int64) r_9))) s_p1_size s_p1_lineCount s_p1_near s_p1_sets s_p1_through s_p2_size s_p2_lineCount s_p2_near s_p2_sets s_p2_through (fun (u_106_0 : Int32) (u_106_1 : Nat → Int64) => (w_X2_take_109 (s_p0_depth + (1 : Int32)) (s_p0_tryCount + (1 : Int32)) u_106_0 (upd s_p0_images (s_p0_depth).toNatClampNeg r_9) u_106_1 (vp_updL s_p0_used ((s_p0_depth + (1 : Int32))).toNatClampNeg ((s_p0_used (s_p0_depth).toNatClampNeg) ||| (vshl (1 : Int64) r_9))) s_p1_size s_p1_lineCount s_p1_near s_p1_sets s_p1_through s_p2_size s_p2_lineCount s_p2_near s_p2_sets s_p2_through Q)))))))))))))))
-- X2_take
theorem iX2_take_X2 : ∀ w ∈ wsX20, w ∈ wsX2_take := by decide +kernel
theorem iX2_take_X5 : ∀ w ∈ wsX50, w ∈ wsX2_take := by decide +kernel
set_option maxHeartbeats 4000000 in
set_option maxRecDepth 100000 in
theorem k_X2_take_109 {E : vE} {T : Nat → ClassId} {o_p0 : Nat} {a_p0 : Nat → Nat} {o_p1 : Nat} {a_p1 : Nat → Nat} {o_p2 : Nat} {a_p2 : Nat → Nat} {s_p0_depth : Int32} {s_p0_tryCount : Int32} {s_p0_isSpent : Int32} {s_p0_isFound : Int32} {s_p0_images : Nat → Int32} {s_p0_left : Nat → Int64} {s_p0_used : Nat → Int64} {s_p1_there : Int32} {s_p1_kind : Int32} {s_p1_tag : Int32} {s_p1_size : Int32} {s_p1_lineCount : Int32} {s_p1_near : Nat → Int64} {s_p1_sets : Nat → Int64} {s_p1_through : Nat → Int64} {s_p2_there : Int32} {s_p2_kind : Int32} {s_p2_tag : Int32} {s_p2_size : Int32} {s_p2_lineCount : Int32} {s_p2_near : Nat → Int64} {s_p2_sets : Nat → Int64} {s_p2_through : Nat → Int64} {Q : (Int32) → (Int32) → (Int32) → (Nat → Int32) → (Nat → Int64) → (Nat → Int64) → Prop} (X : vX E cX2_take 4 RX2 wsX2_take (vT T) (vr 4 100)) (r : r_X2_take E T o_p0 a_p0 o_p1 a_p1 o_p2 a_p2 s_p0_isSpent s_p1_there s_p1_kind s_p1_tag s_p1_size s_p1_lineCount s_p1_near s_p1_sets s_p1_through s_p2_there s_p2_kind s_p2_tag s_p2_size s_p2_lineCount s_p2_near s_p2_sets s_p2_through Q) (h : w_X2_take_109 s_p0_depth s_p0_tryCount s_p0_isFound s_p0_images s_p0_left s_p0_used s_p1_size s_p1_lineCount s_p1_near s_p1_sets s_p1_through s_p2_size s_p2_lineCount s_p2_near s_p2_sets s_p2_through Q) : V E 0 0 109 [] [] (cl_X2_take T o_p0 a_p0 o_p1 a_p1 o_p2 a_p2 s_p0_depth s_p0_tryCount s_p0_isSpent s_p0_isFound s_p0_images s_p0_left s_p0_used s_p1_there s_p1_kind s_p1_tag s_p1_size s_p1_lineCount s_p1_near s_p1_sets s_p1_through s_p2_there s_p2_kind s_p2_tag s_p2_size s_p2_lineCount s_p2_near s_p2_sets s_p2_through) := by
  unfold w_X2_take_109 at h
  exact r _ _ (s_p0_depth, s_p0_tryCount, s_p0_isFound, s_p0_images, s_p0_left, s_p0_used) _ dX2_take_109 h rfl
set_option maxHeartbeats 4000000 in
set_option maxRecDepth 100000 in
theorem c_X2_take {l : Launch} {D : va_G} {T : Nat → ClassId} {o_p0 : Nat} {a_p0 : Nat → Nat} {o_p1 : Nat} {a_p1 : Nat → Nat} {o_p2 : Nat} {a_p2 : Nat → Nat} {s_p0_depth : Int32} {s_p0_tryCount : Int32} {s_p0_isSpent : Int32} {s_p0_isFound : Int32} {s_p0_images : Nat → Int32} {s_p0_left : Nat → Int64} {s_p0_used : Nat → Int64} {s_p1_there : Int32} {s_p1_kind : Int32} {s_p1_tag : Int32} {s_p1_size : Int32} {s_p1_lineCount : Int32} {s_p1_near : Nat → Int64} {s_p1_sets : Nat → Int64} {s_p1_through : Nat → Int64} {s_p2_there : Int32} {s_p2_kind : Int32} {s_p2_tag : Int32} {s_p2_size : Int32} {s_p2_lineCount : Int32} {s_p2_near : Nat → Int64} {s_p2_sets : Nat → Int64} {s_p2_through : Nat → Int64} {Q : (Int32) → (Int32) → (Int32) → (Nat → Int32) → (Nat → Int64) → (Nat → Int64) → Prop} (h : w_X2_take s_p0_depth s_p0_tryCount s_p0_isFound s_p0_images s_p0_left s_p0_used s_p1_size s_p1_lineCount s_p1_near s_p1_sets s_p1_through s_p2_size s_p2_lineCount s_p2_near s_p2_sets s_p2_through Q) : vCv l D (vT T) yX2_take wsX2_take (vr 4 100) [.ref o_p0, .ref o_p1, .ref o_p2] (cl_X2_take T o_p0 a_p0 o_p1 a_p1 o_p2 a_p2 s_p0_depth s_p0_tryCount s_p0_isSpent s_p0_isFound s_p0_images s_p0_left s_p0_used s_p1_there s_p1_kind s_p1_tag s_p1_size s_p1_lineCount s_p1_near s_p1_sets s_p1_through s_p2_there s_p2_kind s_p2_tag s_p2_size s_p2_lineCount s_p2_near s_p2_sets s_p2_through) (fun (u : (Int32) × (Int32) × (Int32) × (Nat → Int32) × (Nat → Int64) × (Nat → Int64)) => Q u.1 u.2.1 u.2.2.1 u.2.2.2.1 u.2.2.2.2.1 u.2.2.2.2.2) (fun (u : (Int32) × (Int32) × (Int32) × (Nat → Int32) × (Nat → Int64) × (Nat → Int64)) => (cl_X2_take T o_p0 a_p0 o_p1 a_p1 o_p2 a_p2 u.1 u.2.1 s_p0_isSpent u.2.2.1 u.2.2.2.1 u.2.2.2.2.1 u.2.2.2.2.2 s_p1_there s_p1_kind s_p1_tag s_p1_size s_p1_lineCount s_p1_near s_p1_sets s_p1_through s_p2_there s_p2_kind s_p2_tag s_p2_size s_p2_lineCount s_p2_near s_p2_sets s_p2_through)) := by
  refine vC_v (cc := cX2_take) (nL := 4) (by decide +kernel) rfl ⟨rfl, rfl⟩ (Nat.le_of_ble_eq_true rfl) rfl ?_
  intro E el eD X r
  unfold w_X2_take at h
  refine v_aload_n X 0 dX2_take_0 rfl rfl ?_
  refine v_get X 0 2 (F := TX2) (N := 7) iX2_take_X2 rfl rfl (by decide) (List.mem_of_getElem? (i := 1) rfl) rfl rfl dX2_take_1 ?_
  refine v_aload_n X 0 dX2_take_4 rfl rfl ?_
  refine v_get X 0 3 (F := TX2) (N := 7) iX2_take_X2 rfl rfl (by decide) (List.mem_of_getElem? (i := 2) rfl) rfl rfl dX2_take_5 ?_
  refine v_lald X 2 1 rfl rfl h.1 dX2_take_8 ?_
  replace h := h.2
  refine v_callNi0 X (As := [.long (s_p0_left (s_p0_depth).toNatClampNeg)]) (rest := []) 1 (c_X6_leastOf (l := vl E) (D := vD E) (T := T) (x_0 := (s_p0_left (s_p0_depth).toNatClampNeg)) h) gX2_take_X6_leastOf_n52 (List.mem_of_getElem? (i := 47) rfl) (List.mem_of_getElem? (i := 8) rfl) (List.mem_of_getElem? (i := 7) rfl) rfl rfl (by decide +kernel) ⟨Nat.zero_le _, Nat.zero_le _⟩ ⟨rfl, rfl, by decide, by decide⟩ (Nat.le_of_ble_eq_true rfl) rfl dX2_take_9 (fun r_9 h => ?_)
  refine v_istore_n X (lv' := [(3, .int r_9), (0, .ref o_p0), (1, .ref o_p1), (2, .ref o_p2)]) dX2_take_12 rfl (by decide) rfl ?_
  refine v_aload_n X 1 dX2_take_13 rfl rfl ?_
  refine v_get X 0 2 (F := TX2) (N := 7) iX2_take_X2 rfl rfl (by decide) (List.mem_of_getElem? (i := 1) rfl) rfl rfl dX2_take_14 ?_
  refine v_aload_n X 1 dX2_take_17 rfl rfl ?_
  refine v_get X 0 3 (F := TX2) (N := 7) iX2_take_X2 rfl rfl (by decide) (List.mem_of_getElem? (i := 2) rfl) rfl rfl dX2_take_18 ?_
  refine v_dup2_11 X dX2_take_21 rfl rfl ?_
  refine v_lald X 2 1 rfl rfl h.1 dX2_take_22 ?_
  replace h := h.2
  refine v_lconst X dX2_take_23 (v := (1 : Int64)) (by decide) ?_
  refine v_iload_n X 0 dX2_take_24 rfl rfl ?_
  refine v_lshl X dX2_take_25 ?_
  refine v_ldc2 X (v := (-1 : Int64)) (List.mem_of_getElem? (i := 3) rfl) dX2_take_26 ?_
  refine v_lxor X dX2_take_29 ?_
  refine v_land X dX2_take_30 ?_
  refine v_last X (ws' := (cl_X2_take T o_p0 a_p0 o_p1 a_p1 o_p2 a_p2 s_p0_depth s_p0_tryCount s_p0_isSpent s_p0_isFound s_p0_images (vp_updL s_p0_left (s_p0_depth).toNatClampNeg ((s_p0_left (s_p0_depth).toNatClampNeg) &&& ((vshl (1 : Int64) r_9) ^^^ (-1 : Int64)))) s_p0_used s_p1_there s_p1_kind s_p1_tag s_p1_size s_p1_lineCount s_p1_near s_p1_sets s_p1_through s_p2_there s_p2_kind s_p2_tag s_p2_size s_p2_lineCount s_p2_near s_p2_sets s_p2_through)) 2 1 rfl rfl h.1 rfl dX2_take_31 ?_
  replace h := h.2
  refine v_aload_n X 1 dX2_take_32 rfl rfl ?_
  refine v_dup X dX2_take_33 rfl ?_
  refine v_get X 0 4 (F := TX2) (N := 7) iX2_take_X2 rfl rfl (by decide) (List.mem_of_getElem? (i := 4) rfl) rfl rfl dX2_take_34 ?_
  refine v_iconst X dX2_take_37 (v := (1 : Int32)) (by decide) ?_
  refine v_iadd X dX2_take_38 ?_
  refine v_put X (ws' := (cl_X2_take T o_p0 a_p0 o_p1 a_p1 o_p2 a_p2 s_p0_depth (s_p0_tryCount + (1 : Int32)) s_p0_isSpent s_p0_isFound s_p0_images (vp_updL s_p0_left (s_p0_depth).toNatClampNeg ((s_p0_left (s_p0_depth).toNatClampNeg) &&& ((vshl (1 : Int64) r_9) ^^^ (-1 : Int64)))) s_p0_used s_p1_there s_p1_kind s_p1_tag s_p1_size s_p1_lineCount s_p1_near s_p1_sets s_p1_through s_p2_there s_p2_kind s_p2_tag s_p2_size s_p2_lineCount s_p2_near s_p2_sets s_p2_through)) 0 4 (F := TX2) (N := 7) iX2_take_X2 rfl tyX2 tyX2_ok nmX2 rfl (by decide) (List.mem_of_getElem? (i := 4) rfl) rfl rfl rfl rfl rfl (Nat.le_of_ble_eq_true rfl) rfl dX2_take_39 ?_
  refine v_iload_n X 0 dX2_take_42 rfl rfl ?_
  refine v_bipush X dX2_take_43 (v := (45 : Int32)) (by decide) ?_
  refine v_icmp_ge X (tgt := 109) dX2_take_45 (by decide) (fun c_45 => ?_) (fun c_45 => ?_)
  · replace h := h.1 c_45
    refine v_lv (lv' := []) [] rfl ?_
    exact k_X2_take_109 X r h
  · replace h := h.2 c_45
    refine v_aload_n X 1 dX2_take_48 rfl rfl ?_
    refine v_get X 0 3 (F := TX2) (N := 7) iX2_take_X2 rfl rfl (by decide) (List.mem_of_getElem? (i := 2) rfl) rfl rfl dX2_take_49 ?_
    refine v_aload_n X 2 dX2_take_52 rfl rfl ?_
    refine v_getN X 4 6 (F := TX5) (N := 8) iX2_take_X5 rfl rfl (by decide) (List.mem_of_getElem? (i := 27) rfl) rfl rfl dX2_take_53 ?_
    refine v_icmp_ge X (tgt := 109) dX2_take_56 (by decide) (fun c_56 => ?_) (fun c_56 => ?_)
    · replace h := h.1 c_56
      refine v_lv (lv' := []) [] rfl ?_
      exact k_X2_take_109 X r h
    · replace h := h.2 c_56
      refine v_aload_n X 1 dX2_take_59 rfl rfl ?_
      refine v_get X 0 0 (F := TX2) (N := 7) iX2_take_X2 rfl rfl (by decide) (List.mem_of_getElem? (i := 5) rfl) rfl rfl dX2_take_60 ?_
      refine v_aload_n X 1 dX2_take_63 rfl rfl ?_
      refine v_get X 0 3 (F := TX2) (N := 7) iX2_take_X2 rfl rfl (by decide) (List.mem_of_getElem? (i := 2) rfl) rfl rfl dX2_take_64 ?_
      refine v_iload_n X 0 dX2_take_67 rfl rfl ?_
      refine v_iast X (ws' := (cl_X2_take T o_p0 a_p0 o_p1 a_p1 o_p2 a_p2 s_p0_depth (s_p0_tryCount + (1 : Int32)) s_p0_isSpent s_p0_isFound (upd s_p0_images (s_p0_depth).toNatClampNeg r_9) (vp_updL s_p0_left (s_p0_depth).toNatClampNeg ((s_p0_left (s_p0_depth).toNatClampNeg) &&& ((vshl (1 : Int64) r_9) ^^^ (-1 : Int64)))) s_p0_used s_p1_there s_p1_kind s_p1_tag s_p1_size s_p1_lineCount s_p1_near s_p1_sets s_p1_through s_p2_there s_p2_kind s_p2_tag s_p2_size s_p2_lineCount s_p2_near s_p2_sets s_p2_through)) 1 0 rfl rfl h.1 rfl dX2_take_68 ?_
      replace h := h.2
      refine v_aload_n X 1 dX2_take_69 rfl rfl ?_
      refine v_get X 0 1 (F := TX2) (N := 7) iX2_take_X2 rfl rfl (by decide) (List.mem_of_getElem? (i := 6) rfl) rfl rfl dX2_take_70 ?_
      refine v_aload_n X 1 dX2_take_73 rfl rfl ?_
      refine v_get X 0 3 (F := TX2) (N := 7) iX2_take_X2 rfl rfl (by decide) (List.mem_of_getElem? (i := 2) rfl) rfl rfl dX2_take_74 ?_
      refine v_iconst X dX2_take_77 (v := (1 : Int32)) (by decide) ?_
      refine v_iadd X dX2_take_78 ?_
      refine v_aload_n X 1 dX2_take_79 rfl rfl ?_
      refine v_get X 0 1 (F := TX2) (N := 7) iX2_take_X2 rfl rfl (by decide) (List.mem_of_getElem? (i := 6) rfl) rfl rfl dX2_take_80 ?_
      refine v_aload_n X 1 dX2_take_83 rfl rfl ?_
      refine v_get X 0 3 (F := TX2) (N := 7) iX2_take_X2 rfl rfl (by decide) (List.mem_of_getElem? (i := 2) rfl) rfl rfl dX2_take_84 ?_
      refine v_lald X 3 1 rfl rfl h.1 dX2_take_87 ?_
      replace h := h.2
      refine v_lconst X dX2_take_88 (v := (1 : Int64)) (by decide) ?_
      refine v_iload_n X 0 dX2_take_89 rfl rfl ?_
      refine v_lshl X dX2_take_90 ?_
      refine v_lor X dX2_take_91 ?_
      refine v_last X (ws' := (cl_X2_take T o_p0 a_p0 o_p1 a_p1 o_p2 a_p2 s_p0_depth (s_p0_tryCount + (1 : Int32)) s_p0_isSpent s_p0_isFound (upd s_p0_images (s_p0_depth).toNatClampNeg r_9) (vp_updL s_p0_left (s_p0_depth).toNatClampNeg ((s_p0_left (s_p0_depth).toNatClampNeg) &&& ((vshl (1 : Int64) r_9) ^^^ (-1 : Int64)))) (vp_updL s_p0_used ((s_p0_depth + (1 : Int32))).toNatClampNeg ((s_p0_used (s_p0_depth).toNatClampNeg) ||| (vshl (1 : Int64) r_9))) s_p1_there s_p1_kind s_p1_tag s_p1_size s_p1_lineCount s_p1_near s_p1_sets s_p1_through s_p2_there s_p2_kind s_p2_tag s_p2_size s_p2_lineCount s_p2_near s_p2_sets s_p2_through)) 3 1 rfl rfl h.1 rfl dX2_take_92 ?_
      replace h := h.2
      refine v_aload_n X 1 dX2_take_93 rfl rfl ?_
      refine v_dup X dX2_take_94 rfl ?_
      refine v_get X 0 3 (F := TX2) (N := 7) iX2_take_X2 rfl rfl (by decide) (List.mem_of_getElem? (i := 2) rfl) rfl rfl dX2_take_95 ?_
      refine v_iconst X dX2_take_98 (v := (1 : Int32)) (by decide) ?_
      refine v_iadd X dX2_take_99 ?_
      refine v_put X (ws' := (cl_X2_take T o_p0 a_p0 o_p1 a_p1 o_p2 a_p2 (s_p0_depth + (1 : Int32)) (s_p0_tryCount + (1 : Int32)) s_p0_isSpent s_p0_isFound (upd s_p0_images (s_p0_depth).toNatClampNeg r_9) (vp_updL s_p0_left (s_p0_depth).toNatClampNeg ((s_p0_left (s_p0_depth).toNatClampNeg) &&& ((vshl (1 : Int64) r_9) ^^^ (-1 : Int64)))) (vp_updL s_p0_used ((s_p0_depth + (1 : Int32))).toNatClampNeg ((s_p0_used (s_p0_depth).toNatClampNeg) ||| (vshl (1 : Int64) r_9))) s_p1_there s_p1_kind s_p1_tag s_p1_size s_p1_lineCount s_p1_near s_p1_sets s_p1_through s_p2_there s_p2_kind s_p2_tag s_p2_size s_p2_lineCount s_p2_near s_p2_sets s_p2_through)) 0 3 (F := TX2) (N := 7) iX2_take_X2 rfl tyX2 tyX2_ok nmX2 rfl (by decide) (List.mem_of_getElem? (i := 2) rfl) rfl rfl rfl rfl rfl (Nat.le_of_ble_eq_true rfl) rfl dX2_take_100 ?_
      refine v_aload_n X 1 dX2_take_103 rfl rfl ?_
      refine v_aload_n X 2 dX2_take_104 rfl rfl ?_
      refine v_aload_n X 3 dX2_take_105 rfl rfl ?_
      refine v_callVv X (As := [.ref o_p1, .ref o_p2]) (rest := []) 2 0 (c_X2_open (l := vl E) (D := vD E) (T := T) (o_p0 := o_p0) (a_p0 := a_p0) (o_p1 := o_p1) (a_p1 := a_p1) (o_p2 := o_p2) (a_p2 := a_p2) (s_p0_depth := (s_p0_depth + (1 : Int32))) (s_p0_tryCount := (s_p0_tryCount + (1 : Int32))) (s_p0_isSpent := s_p0_isSpent) (s_p0_isFound := s_p0_isFound) (s_p0_images := (upd s_p0_images (s_p0_depth).toNatClampNeg r_9)) (s_p0_left := (vp_updL s_p0_left (s_p0_depth).toNatClampNeg ((s_p0_left (s_p0_depth).toNatClampNeg) &&& ((vshl (1 : Int64) r_9) ^^^ (-1 : Int64))))) (s_p0_used := (vp_updL s_p0_used ((s_p0_depth + (1 : Int32))).toNatClampNeg ((s_p0_used (s_p0_depth).toNatClampNeg) ||| (vshl (1 : Int64) r_9)))) (s_p1_there := s_p1_there) (s_p1_kind := s_p1_kind) (s_p1_tag := s_p1_tag) (s_p1_size := s_p1_size) (s_p1_lineCount := s_p1_lineCount) (s_p1_near := s_p1_near) (s_p1_sets := s_p1_sets) (s_p1_through := s_p1_through) (s_p2_there := s_p2_there) (s_p2_kind := s_p2_kind) (s_p2_tag := s_p2_tag) (s_p2_size := s_p2_size) (s_p2_lineCount := s_p2_lineCount) (s_p2_near := s_p2_near) (s_p2_sets := s_p2_sets) (s_p2_through := s_p2_through) h) gX2_take_X2_open rfl rfl (by decide +kernel) ⟨Nat.zero_le _, Nat.zero_le _⟩ ⟨rfl, rfl, by decide, by decide⟩ (Nat.le_of_ble_eq_true rfl) rfl rfl (wr := []) [0, 1, 2, 3, 4, 5, 6, 7, 8, 9, 10, 11] [] rfl rfl rfl rfl (by decide) rfl dX2_take_106 (fun u h => ?_)
      obtain ⟨u_106_0, u_106_1⟩ := u
      dsimp only at h
      refine v_ws (ws' := (cl_X2_take T o_p0 a_p0 o_p1 a_p1 o_p2 a_p2 (s_p0_depth + (1 : Int32)) (s_p0_tryCount + (1 : Int32)) s_p0_isSpent u_106_0 (upd s_p0_images (s_p0_depth).toNatClampNeg r_9) u_106_1 (vp_updL s_p0_used ((s_p0_depth + (1 : Int32))).toNatClampNeg ((s_p0_used (s_p0_depth).toNatClampNeg) ||| (vshl (1 : Int64) r_9))) s_p1_there s_p1_kind s_p1_tag s_p1_size s_p1_lineCount s_p1_near s_p1_sets s_p1_through s_p2_there s_p2_kind s_p2_tag s_p2_size s_p2_lineCount s_p2_near s_p2_sets s_p2_through)) [0, 1, 2, 3, 4, 5, 6, 7, 8, 9, 10, 11] rfl rfl ?_
      refine v_lv (lv' := []) [] rfl ?_
      exact k_X2_take_109 X r h
abbrev cl_X2_take_a (T : Nat → ClassId) (o_p0 : Nat) (a_p0 : Nat → Nat) (o_p1 : Nat) (a_p1 : Nat → Nat) (s_p0_depth : Int32) (s_p0_tryCount : Int32) (s_p0_isSpent : Int32) (s_p0_isFound : Int32) (s_p0_images : Nat → Int32) (s_p0_left : Nat → Int64) (s_p0_used : Nat → Int64) (s_p1_there : Int32) (s_p1_kind : Int32) (s_p1_tag : Int32) (s_p1_size : Int32) (s_p1_lineCount : Int32) (s_p1_near : Nat → Int64) (s_p1_sets : Nat → Int64) (s_p1_through : Nat → Int64) : va_W := [vO o_p0 0 [.ref (a_p0 0), .ref (a_p0 1), .ref (a_p0 2), .int s_p0_depth, .int s_p0_tryCount, .int s_p0_isSpent, .int s_p0_isFound], vI T (a_p0 0) 45 s_p0_images, vJ T (a_p0 2) 46 s_p0_left, vJ T (a_p0 1) 46 s_p0_used, vO o_p1 2 [.ref (a_p1 0), .ref (a_p1 1), .ref (a_p1 2), .int s_p1_there, .int s_p1_kind, .int s_p1_tag, .int s_p1_size, .int s_p1_lineCount], vJ T (a_p1 2) 45 s_p1_near, vJ T (a_p1 0) 45 s_p1_sets, vJ T (a_p1 1) 45 s_p1_through]
abbrev r_X2_take_a (E : vE) (T : Nat → ClassId) (o_p0 : Nat) (a_p0 : Nat → Nat) (o_p1 : Nat) (a_p1 : Nat → Nat) (s_p0_isSpent : Int32) (s_p1_there : Int32) (s_p1_kind : Int32) (s_p1_tag : Int32) (s_p1_size : Int32) (s_p1_lineCount : Int32) (s_p1_near : Nat → Int64) (s_p1_sets : Nat → Int64) (s_p1_through : Nat → Int64) (Q : (Int32) → (Int32) → (Int32) → (Nat → Int32) → (Nat → Int64) → (Nat → Int64) → Prop) : Prop := vRv E cX2_take (fun (u : (Int32) × (Int32) × (Int32) × (Nat → Int32) × (Nat → Int64) × (Nat → Int64)) => Q u.1 u.2.1 u.2.2.1 u.2.2.2.1 u.2.2.2.2.1 u.2.2.2.2.2) (fun (u : (Int32) × (Int32) × (Int32) × (Nat → Int32) × (Nat → Int64) × (Nat → Int64)) => (cl_X2_take_a T o_p0 a_p0 o_p1 a_p1 u.1 u.2.1 s_p0_isSpent u.2.2.1 u.2.2.2.1 u.2.2.2.2.1 u.2.2.2.2.2 s_p1_there s_p1_kind s_p1_tag s_p1_size s_p1_lineCount s_p1_near s_p1_sets s_p1_through))
set_option maxHeartbeats 4000000 in
set_option maxRecDepth 100000 in
theorem k_X2_take_109_a {E : vE} {T : Nat → ClassId} {o_p0 : Nat} {a_p0 : Nat → Nat} {o_p1 : Nat} {a_p1 : Nat → Nat} {s_p0_depth : Int32} {s_p0_tryCount : Int32} {s_p0_isSpent : Int32} {s_p0_isFound : Int32} {s_p0_images : Nat → Int32} {s_p0_left : Nat → Int64} {s_p0_used : Nat → Int64} {s_p1_there : Int32} {s_p1_kind : Int32} {s_p1_tag : Int32} {s_p1_size : Int32} {s_p1_lineCount : Int32} {s_p1_near : Nat → Int64} {s_p1_sets : Nat → Int64} {s_p1_through : Nat → Int64} {Q : (Int32) → (Int32) → (Int32) → (Nat → Int32) → (Nat → Int64) → (Nat → Int64) → Prop} (X : vX E cX2_take 4 RX2 wsX2_take (vT T) (vr 4 100)) (r : r_X2_take_a E T o_p0 a_p0 o_p1 a_p1 s_p0_isSpent s_p1_there s_p1_kind s_p1_tag s_p1_size s_p1_lineCount s_p1_near s_p1_sets s_p1_through Q) (h : w_X2_take_109 s_p0_depth s_p0_tryCount s_p0_isFound s_p0_images s_p0_left s_p0_used s_p1_size s_p1_lineCount s_p1_near s_p1_sets s_p1_through s_p1_size s_p1_lineCount s_p1_near s_p1_sets s_p1_through Q) : V E 0 0 109 [] [] (cl_X2_take_a T o_p0 a_p0 o_p1 a_p1 s_p0_depth s_p0_tryCount s_p0_isSpent s_p0_isFound s_p0_images s_p0_left s_p0_used s_p1_there s_p1_kind s_p1_tag s_p1_size s_p1_lineCount s_p1_near s_p1_sets s_p1_through) := by
  unfold w_X2_take_109 at h
  exact r _ _ (s_p0_depth, s_p0_tryCount, s_p0_isFound, s_p0_images, s_p0_left, s_p0_used) _ dX2_take_109 h rfl
set_option maxHeartbeats 4000000 in
set_option maxRecDepth 100000 in
theorem c_X2_take_a {l : Launch} {D : va_G} {T : Nat → ClassId} {o_p0 : Nat} {a_p0 : Nat → Nat} {o_p1 : Nat} {a_p1 : Nat → Nat} {s_p0_depth : Int32} {s_p0_tryCount : Int32} {s_p0_isSpent : Int32} {s_p0_isFound : Int32} {s_p0_images : Nat → Int32} {s_p0_left : Nat → Int64} {s_p0_used : Nat → Int64} {s_p1_there : Int32} {s_p1_kind : Int32} {s_p1_tag : Int32} {s_p1_size : Int32} {s_p1_lineCount : Int32} {s_p1_near : Nat → Int64} {s_p1_sets : Nat → Int64} {s_p1_through : Nat → Int64} {Q : (Int32) → (Int32) → (Int32) → (Nat → Int32) → (Nat → Int64) → (Nat → Int64) → Prop} (h : w_X2_take s_p0_depth s_p0_tryCount s_p0_isFound s_p0_images s_p0_left s_p0_used s_p1_size s_p1_lineCount s_p1_near s_p1_sets s_p1_through s_p1_size s_p1_lineCount s_p1_near s_p1_sets s_p1_through Q) : vCv l D (vT T) yX2_take wsX2_take (vr 4 100) [.ref o_p0, .ref o_p1, .ref o_p1] (cl_X2_take_a T o_p0 a_p0 o_p1 a_p1 s_p0_depth s_p0_tryCount s_p0_isSpent s_p0_isFound s_p0_images s_p0_left s_p0_used s_p1_there s_p1_kind s_p1_tag s_p1_size s_p1_lineCount s_p1_near s_p1_sets s_p1_through) (fun (u : (Int32) × (Int32) × (Int32) × (Nat → Int32) × (Nat → Int64) × (Nat → Int64)) => Q u.1 u.2.1 u.2.2.1 u.2.2.2.1 u.2.2.2.2.1 u.2.2.2.2.2) (fun (u : (Int32) × (Int32) × (Int32) × (Nat → Int32) × (Nat → Int64) × (Nat → Int64)) => (cl_X2_take_a T o_p0 a_p0 o_p1 a_p1 u.1 u.2.1 s_p0_isSpent u.2.2.1 u.2.2.2.1 u.2.2.2.2.1 u.2.2.2.2.2 s_p1_there s_p1_kind s_p1_tag s_p1_size s_p1_lineCount s_p1_near s_p1_sets s_p1_through)) := by
  refine vC_v (cc := cX2_take) (nL := 4) (by decide +kernel) rfl ⟨rfl, rfl⟩ (Nat.le_of_ble_eq_true rfl) rfl ?_
  intro E el eD X r
  unfold w_X2_take at h
  refine v_aload_n X 0 dX2_take_0 rfl rfl ?_
  refine v_get X 0 2 (F := TX2) (N := 7) iX2_take_X2 rfl rfl (by decide) (List.mem_of_getElem? (i := 1) rfl) rfl rfl dX2_take_1 ?_
  refine v_aload_n X 0 dX2_take_4 rfl rfl ?_
  refine v_get X 0 3 (F := TX2) (N := 7) iX2_take_X2 rfl rfl (by decide) (List.mem_of_getElem? (i := 2) rfl) rfl rfl dX2_take_5 ?_
  refine v_lald X 2 1 rfl rfl h.1 dX2_take_8 ?_
  replace h := h.2
  refine v_callNi0 X (As := [.long (s_p0_left (s_p0_depth).toNatClampNeg)]) (rest := []) 1 (c_X6_leastOf (l := vl E) (D := vD E) (T := T) (x_0 := (s_p0_left (s_p0_depth).toNatClampNeg)) h) gX2_take_X6_leastOf_n52 (List.mem_of_getElem? (i := 47) rfl) (List.mem_of_getElem? (i := 8) rfl) (List.mem_of_getElem? (i := 7) rfl) rfl rfl (by decide +kernel) ⟨Nat.zero_le _, Nat.zero_le _⟩ ⟨rfl, rfl, by decide, by decide⟩ (Nat.le_of_ble_eq_true rfl) rfl dX2_take_9 (fun r_9 h => ?_)
  refine v_istore_n X (lv' := [(3, .int r_9), (0, .ref o_p0), (1, .ref o_p1), (2, .ref o_p1)]) dX2_take_12 rfl (by decide) rfl ?_
  refine v_aload_n X 1 dX2_take_13 rfl rfl ?_
  refine v_get X 0 2 (F := TX2) (N := 7) iX2_take_X2 rfl rfl (by decide) (List.mem_of_getElem? (i := 1) rfl) rfl rfl dX2_take_14 ?_
  refine v_aload_n X 1 dX2_take_17 rfl rfl ?_
  refine v_get X 0 3 (F := TX2) (N := 7) iX2_take_X2 rfl rfl (by decide) (List.mem_of_getElem? (i := 2) rfl) rfl rfl dX2_take_18 ?_
  refine v_dup2_11 X dX2_take_21 rfl rfl ?_
  refine v_lald X 2 1 rfl rfl h.1 dX2_take_22 ?_
  replace h := h.2
  refine v_lconst X dX2_take_23 (v := (1 : Int64)) (by decide) ?_
  refine v_iload_n X 0 dX2_take_24 rfl rfl ?_
  refine v_lshl X dX2_take_25 ?_
  refine v_ldc2 X (v := (-1 : Int64)) (List.mem_of_getElem? (i := 3) rfl) dX2_take_26 ?_
  refine v_lxor X dX2_take_29 ?_
  refine v_land X dX2_take_30 ?_
  refine v_last X (ws' := (cl_X2_take_a T o_p0 a_p0 o_p1 a_p1 s_p0_depth s_p0_tryCount s_p0_isSpent s_p0_isFound s_p0_images (vp_updL s_p0_left (s_p0_depth).toNatClampNeg ((s_p0_left (s_p0_depth).toNatClampNeg) &&& ((vshl (1 : Int64) r_9) ^^^ (-1 : Int64)))) s_p0_used s_p1_there s_p1_kind s_p1_tag s_p1_size s_p1_lineCount s_p1_near s_p1_sets s_p1_through)) 2 1 rfl rfl h.1 rfl dX2_take_31 ?_
  replace h := h.2
  refine v_aload_n X 1 dX2_take_32 rfl rfl ?_
  refine v_dup X dX2_take_33 rfl ?_
  refine v_get X 0 4 (F := TX2) (N := 7) iX2_take_X2 rfl rfl (by decide) (List.mem_of_getElem? (i := 4) rfl) rfl rfl dX2_take_34 ?_
  refine v_iconst X dX2_take_37 (v := (1 : Int32)) (by decide) ?_
  refine v_iadd X dX2_take_38 ?_
  refine v_put X (ws' := (cl_X2_take_a T o_p0 a_p0 o_p1 a_p1 s_p0_depth (s_p0_tryCount + (1 : Int32)) s_p0_isSpent s_p0_isFound s_p0_images (vp_updL s_p0_left (s_p0_depth).toNatClampNeg ((s_p0_left (s_p0_depth).toNatClampNeg) &&& ((vshl (1 : Int64) r_9) ^^^ (-1 : Int64)))) s_p0_used s_p1_there s_p1_kind s_p1_tag s_p1_size s_p1_lineCount s_p1_near s_p1_sets s_p1_through)) 0 4 (F := TX2) (N := 7) iX2_take_X2 rfl tyX2 tyX2_ok nmX2 rfl (by decide) (List.mem_of_getElem? (i := 4) rfl) rfl rfl rfl rfl rfl (Nat.le_of_ble_eq_true rfl) rfl dX2_take_39 ?_
  refine v_iload_n X 0 dX2_take_42 rfl rfl ?_
  refine v_bipush X dX2_take_43 (v := (45 : Int32)) (by decide) ?_
  refine v_icmp_ge X (tgt := 109) dX2_take_45 (by decide) (fun c_45 => ?_) (fun c_45 => ?_)
  · replace h := h.1 c_45
    refine v_lv (lv' := []) [] rfl ?_
    exact k_X2_take_109_a X r h
  · replace h := h.2 c_45
    refine v_aload_n X 1 dX2_take_48 rfl rfl ?_
    refine v_get X 0 3 (F := TX2) (N := 7) iX2_take_X2 rfl rfl (by decide) (List.mem_of_getElem? (i := 2) rfl) rfl rfl dX2_take_49 ?_
    refine v_aload_n X 2 dX2_take_52 rfl rfl ?_
    refine v_getN X 4 6 (F := TX5) (N := 8) iX2_take_X5 rfl rfl (by decide) (List.mem_of_getElem? (i := 27) rfl) rfl rfl dX2_take_53 ?_
    refine v_icmp_ge X (tgt := 109) dX2_take_56 (by decide) (fun c_56 => ?_) (fun c_56 => ?_)
    · replace h := h.1 c_56
      refine v_lv (lv' := []) [] rfl ?_
      exact k_X2_take_109_a X r h
    · replace h := h.2 c_56
      refine v_aload_n X 1 dX2_take_59 rfl rfl ?_
      refine v_get X 0 0 (F := TX2) (N := 7) iX2_take_X2 rfl rfl (by decide) (List.mem_of_getElem? (i := 5) rfl) rfl rfl dX2_take_60 ?_
      refine v_aload_n X 1 dX2_take_63 rfl rfl ?_
      refine v_get X 0 3 (F := TX2) (N := 7) iX2_take_X2 rfl rfl (by decide) (List.mem_of_getElem? (i := 2) rfl) rfl rfl dX2_take_64 ?_
      refine v_iload_n X 0 dX2_take_67 rfl rfl ?_
      refine v_iast X (ws' := (cl_X2_take_a T o_p0 a_p0 o_p1 a_p1 s_p0_depth (s_p0_tryCount + (1 : Int32)) s_p0_isSpent s_p0_isFound (upd s_p0_images (s_p0_depth).toNatClampNeg r_9) (vp_updL s_p0_left (s_p0_depth).toNatClampNeg ((s_p0_left (s_p0_depth).toNatClampNeg) &&& ((vshl (1 : Int64) r_9) ^^^ (-1 : Int64)))) s_p0_used s_p1_there s_p1_kind s_p1_tag s_p1_size s_p1_lineCount s_p1_near s_p1_sets s_p1_through)) 1 0 rfl rfl h.1 rfl dX2_take_68 ?_
      replace h := h.2
      refine v_aload_n X 1 dX2_take_69 rfl rfl ?_
      refine v_get X 0 1 (F := TX2) (N := 7) iX2_take_X2 rfl rfl (by decide) (List.mem_of_getElem? (i := 6) rfl) rfl rfl dX2_take_70 ?_
      refine v_aload_n X 1 dX2_take_73 rfl rfl ?_
      refine v_get X 0 3 (F := TX2) (N := 7) iX2_take_X2 rfl rfl (by decide) (List.mem_of_getElem? (i := 2) rfl) rfl rfl dX2_take_74 ?_
      refine v_iconst X dX2_take_77 (v := (1 : Int32)) (by decide) ?_
      refine v_iadd X dX2_take_78 ?_
      refine v_aload_n X 1 dX2_take_79 rfl rfl ?_
      refine v_get X 0 1 (F := TX2) (N := 7) iX2_take_X2 rfl rfl (by decide) (List.mem_of_getElem? (i := 6) rfl) rfl rfl dX2_take_80 ?_
      refine v_aload_n X 1 dX2_take_83 rfl rfl ?_
      refine v_get X 0 3 (F := TX2) (N := 7) iX2_take_X2 rfl rfl (by decide) (List.mem_of_getElem? (i := 2) rfl) rfl rfl dX2_take_84 ?_
      refine v_lald X 3 1 rfl rfl h.1 dX2_take_87 ?_
      replace h := h.2
      refine v_lconst X dX2_take_88 (v := (1 : Int64)) (by decide) ?_
      refine v_iload_n X 0 dX2_take_89 rfl rfl ?_
      refine v_lshl X dX2_take_90 ?_
      refine v_lor X dX2_take_91 ?_
      refine v_last X (ws' := (cl_X2_take_a T o_p0 a_p0 o_p1 a_p1 s_p0_depth (s_p0_tryCount + (1 : Int32)) s_p0_isSpent s_p0_isFound (upd s_p0_images (s_p0_depth).toNatClampNeg r_9) (vp_updL s_p0_left (s_p0_depth).toNatClampNeg ((s_p0_left (s_p0_depth).toNatClampNeg) &&& ((vshl (1 : Int64) r_9) ^^^ (-1 : Int64)))) (vp_updL s_p0_used ((s_p0_depth + (1 : Int32))).toNatClampNeg ((s_p0_used (s_p0_depth).toNatClampNeg) ||| (vshl (1 : Int64) r_9))) s_p1_there s_p1_kind s_p1_tag s_p1_size s_p1_lineCount s_p1_near s_p1_sets s_p1_through)) 3 1 rfl rfl h.1 rfl dX2_take_92 ?_
      replace h := h.2
      refine v_aload_n X 1 dX2_take_93 rfl rfl ?_
      refine v_dup X dX2_take_94 rfl ?_
      refine v_get X 0 3 (F := TX2) (N := 7) iX2_take_X2 rfl rfl (by decide) (List.mem_of_getElem? (i := 2) rfl) rfl rfl dX2_take_95 ?_
      refine v_iconst X dX2_take_98 (v := (1 : Int32)) (by decide) ?_
      refine v_iadd X dX2_take_99 ?_
      refine v_put X (ws' := (cl_X2_take_a T o_p0 a_p0 o_p1 a_p1 (s_p0_depth + (1 : Int32)) (s_p0_tryCount + (1 : Int32)) s_p0_isSpent s_p0_isFound (upd s_p0_images (s_p0_depth).toNatClampNeg r_9) (vp_updL s_p0_left (s_p0_depth).toNatClampNeg ((s_p0_left (s_p0_depth).toNatClampNeg) &&& ((vshl (1 : Int64) r_9) ^^^ (-1 : Int64)))) (vp_updL s_p0_used ((s_p0_depth + (1 : Int32))).toNatClampNeg ((s_p0_used (s_p0_depth).toNatClampNeg) ||| (vshl (1 : Int64) r_9))) s_p1_there s_p1_kind s_p1_tag s_p1_size s_p1_lineCount s_p1_near s_p1_sets s_p1_through)) 0 3 (F := TX2) (N := 7) iX2_take_X2 rfl tyX2 tyX2_ok nmX2 rfl (by decide) (List.mem_of_getElem? (i := 2) rfl) rfl rfl rfl rfl rfl (Nat.le_of_ble_eq_true rfl) rfl dX2_take_100 ?_
      refine v_aload_n X 1 dX2_take_103 rfl rfl ?_
      refine v_aload_n X 2 dX2_take_104 rfl rfl ?_
      refine v_aload_n X 3 dX2_take_105 rfl rfl ?_
      refine v_callVv X (As := [.ref o_p1, .ref o_p1]) (rest := []) 2 0 (c_X2_open_a (l := vl E) (D := vD E) (T := T) (o_p0 := o_p0) (a_p0 := a_p0) (o_p1 := o_p1) (a_p1 := a_p1) (s_p0_depth := (s_p0_depth + (1 : Int32))) (s_p0_tryCount := (s_p0_tryCount + (1 : Int32))) (s_p0_isSpent := s_p0_isSpent) (s_p0_isFound := s_p0_isFound) (s_p0_images := (upd s_p0_images (s_p0_depth).toNatClampNeg r_9)) (s_p0_left := (vp_updL s_p0_left (s_p0_depth).toNatClampNeg ((s_p0_left (s_p0_depth).toNatClampNeg) &&& ((vshl (1 : Int64) r_9) ^^^ (-1 : Int64))))) (s_p0_used := (vp_updL s_p0_used ((s_p0_depth + (1 : Int32))).toNatClampNeg ((s_p0_used (s_p0_depth).toNatClampNeg) ||| (vshl (1 : Int64) r_9)))) (s_p1_there := s_p1_there) (s_p1_kind := s_p1_kind) (s_p1_tag := s_p1_tag) (s_p1_size := s_p1_size) (s_p1_lineCount := s_p1_lineCount) (s_p1_near := s_p1_near) (s_p1_sets := s_p1_sets) (s_p1_through := s_p1_through) h) gX2_take_X2_open rfl rfl (by decide +kernel) ⟨Nat.zero_le _, Nat.zero_le _⟩ ⟨rfl, rfl, by decide, by decide⟩ (Nat.le_of_ble_eq_true rfl) rfl rfl (wr := []) [0, 1, 2, 3, 4, 5, 6, 7] [] rfl rfl rfl rfl (by decide) rfl dX2_take_106 (fun u h => ?_)
      obtain ⟨u_106_0, u_106_1⟩ := u
      dsimp only at h
      refine v_ws (ws' := (cl_X2_take_a T o_p0 a_p0 o_p1 a_p1 (s_p0_depth + (1 : Int32)) (s_p0_tryCount + (1 : Int32)) s_p0_isSpent u_106_0 (upd s_p0_images (s_p0_depth).toNatClampNeg r_9) u_106_1 (vp_updL s_p0_used ((s_p0_depth + (1 : Int32))).toNatClampNeg ((s_p0_used (s_p0_depth).toNatClampNeg) ||| (vshl (1 : Int64) r_9))) s_p1_there s_p1_kind s_p1_tag s_p1_size s_p1_lineCount s_p1_near s_p1_sets s_p1_through)) [0, 1, 2, 3, 4, 5, 6, 7] rfl rfl ?_
      refine v_lv (lv' := []) [] rfl ?_
      exact k_X2_take_109_a X r h
-- X2_match
abbrev cl_X2_match (T : Nat → ClassId) (o_p0 : Nat) (a_p0 : Nat → Nat) (o_p1 : Nat) (a_p1 : Nat → Nat) (o_p2 : Nat) (a_p2 : Nat → Nat) (s_p0_depth : Int32) (s_p0_tryCount : Int32) (s_p0_isSpent : Int32) (s_p0_isFound : Int32) (s_p0_images : Nat → Int32) (s_p0_left : Nat → Int64) (s_p0_used : Nat → Int64) (s_p1_there : Int32) (s_p1_kind : Int32) (s_p1_tag : Int32) (s_p1_size : Int32) (s_p1_lineCount : Int32) (s_p1_near : Nat → Int64) (s_p1_sets : Nat → Int64) (s_p1_through : Nat → Int64) (s_p2_there : Int32) (s_p2_kind : Int32) (s_p2_tag : Int32) (s_p2_size : Int32) (s_p2_lineCount : Int32) (s_p2_near : Nat → Int64) (s_p2_sets : Nat → Int64) (s_p2_through : Nat → Int64) : va_W := [vO o_p0 0 [.ref (a_p0 0), .ref (a_p0 1), .ref (a_p0 2), .int s_p0_depth, .int s_p0_tryCount, .int s_p0_isSpent, .int s_p0_isFound], vI T (a_p0 0) 45 s_p0_images, vJ T (a_p0 2) 46 s_p0_left, vJ T (a_p0 1) 46 s_p0_used, vO o_p1 2 [.ref (a_p1 0), .ref (a_p1 1), .ref (a_p1 2), .int s_p1_there, .int s_p1_kind, .int s_p1_tag, .int s_p1_size, .int s_p1_lineCount], vJ T (a_p1 2) 45 s_p1_near, vJ T (a_p1 0) 45 s_p1_sets, vJ T (a_p1 1) 45 s_p1_through, vO o_p2 2 [.ref (a_p2 0), .ref (a_p2 1), .ref (a_p2 2), .int s_p2_there, .int s_p2_kind, .int s_p2_tag, .int s_p2_size, .int s_p2_lineCount], vJ T (a_p2 2) 45 s_p2_near, vJ T (a_p2 0) 45 s_p2_sets, vJ T (a_p2 1) 45 s_p2_through]
abbrev r_X2_match (E : vE) (T : Nat → ClassId) (o_p0 : Nat) (a_p0 : Nat → Nat) (o_p1 : Nat) (a_p1 : Nat → Nat) (o_p2 : Nat) (a_p2 : Nat → Nat) (s_p1_there : Int32) (s_p1_kind : Int32) (s_p1_tag : Int32) (s_p1_size : Int32) (s_p1_lineCount : Int32) (s_p1_near : Nat → Int64) (s_p1_sets : Nat → Int64) (s_p1_through : Nat → Int64) (s_p2_there : Int32) (s_p2_kind : Int32) (s_p2_tag : Int32) (s_p2_size : Int32) (s_p2_lineCount : Int32) (s_p2_near : Nat → Int64) (s_p2_sets : Nat → Int64) (s_p2_through : Nat → Int64) (Q : (Int32) → (Int32) → (Int32) → (Int32) → (Nat → Int32) → (Nat → Int64) → (Nat → Int64) → Prop) : Prop := vRv E cX2_match (fun (u : (Int32) × (Int32) × (Int32) × (Int32) × (Nat → Int32) × (Nat → Int64) × (Nat → Int64)) => Q u.1 u.2.1 u.2.2.1 u.2.2.2.1 u.2.2.2.2.1 u.2.2.2.2.2.1 u.2.2.2.2.2.2) (fun (u : (Int32) × (Int32) × (Int32) × (Int32) × (Nat → Int32) × (Nat → Int64) × (Nat → Int64)) => (cl_X2_match T o_p0 a_p0 o_p1 a_p1 o_p2 a_p2 u.1 u.2.1 u.2.2.1 u.2.2.2.1 u.2.2.2.2.1 u.2.2.2.2.2.1 u.2.2.2.2.2.2 s_p1_there s_p1_kind s_p1_tag s_p1_size s_p1_lineCount s_p1_near s_p1_sets s_p1_through s_p2_there s_p2_kind s_p2_tag s_p2_size s_p2_lineCount s_p2_near s_p2_sets s_p2_through))
def w_X2_match_133 (s_p0_depth : Int32) (s_p0_tryCount : Int32) (s_p0_isSpent : Int32) (s_p0_isFound : Int32) (s_p0_images : Nat → Int32) (s_p0_left : Nat → Int64) (s_p0_used : Nat → Int64) (s_p1_size : Int32) (s_p1_lineCount : Int32) (s_p1_near : Nat → Int64) (s_p1_sets : Nat → Int64) (s_p1_through : Nat → Int64) (s_p2_size : Int32) (s_p2_lineCount : Int32) (s_p2_near : Nat → Int64) (s_p2_sets : Nat → Int64) (s_p2_through : Nat → Int64) (Q : (Int32) → (Int32) → (Int32) → (Int32) → (Nat → Int32) → (Nat → Int64) → (Nat → Int64) → Prop) : Prop := (Q s_p0_depth s_p0_tryCount s_p0_isSpent s_p0_isFound s_p0_images s_p0_left s_p0_used)
def w_X2_match_127 (x_3 : Int32) (x_4 : Int32) (s_p0_depth : Int32) (s_p0_tryCount : Int32) (s_p0_isSpent : Int32) (s_p0_isFound : Int32) (s_p0_images : Nat → Int32) (s_p0_left : Nat → Int64) (s_p0_used : Nat → Int64) (s_p1_size : Int32) (s_p1_lineCount : Int32) (s_p1_near : Nat → Int64) (s_p1_sets : Nat → Int64) (s_p1_through : Nat → Int64) (s_p2_size : Int32) (s_p2_lineCount : Int32) (s_p2_near : Nat → Int64) (s_p2_sets : Nat → Int64) (s_p2_through : Nat → Int64) (K_59 : (Int32) → (Int32) → (Int32) → (Int32) → (Nat → Int32) → (Nat → Int64) → (Nat → Int64) → Prop) (Q : (Int32) → (Int32) → (Int32) → (Int32) → (Nat → Int32) → (Nat → Int64) → (Nat → Int64) → Prop) : Prop := (K_59 (x_4 + (1 : Int32)) s_p0_depth s_p0_tryCount s_p0_isFound s_p0_images s_p0_left s_p0_used)
def w_X2_match_59s (x_3 : Int32) (s_p0_isSpent : Int32) (s_p1_size : Int32) (s_p1_lineCount : Int32) (s_p1_near : Nat → Int64) (s_p1_sets : Nat → Int64) (s_p1_through : Nat → Int64) (s_p2_size : Int32) (s_p2_lineCount : Int32) (s_p2_near : Nat → Int64) (s_p2_sets : Nat → Int64) (s_p2_through : Nat → Int64) (Q : (Int32) → (Int32) → (Int32) → (Int32) → (Nat → Int32) → (Nat → Int64) → (Nat → Int64) → Prop) (K_59 : (Int32) → (Int32) → (Int32) → (Int32) → (Nat → Int32) → (Nat → Int64) → (Nat → Int64) → Prop) (x_4 : Int32) (s_p0_depth : Int32) (s_p0_tryCount : Int32) (s_p0_isFound : Int32) (s_p0_images : Nat → Int32) (s_p0_left : Nat → Int64) (s_p0_used : Nat → Int64) : Prop := (((1000000 : Int32) ≤ x_4 → (w_X2_match_133 s_p0_depth s_p0_tryCount s_p0_isSpent s_p0_isFound s_p0_images s_p0_left s_p0_used s_p1_size s_p1_lineCount s_p1_near s_p1_sets s_p1_through s_p2_size s_p2_lineCount s_p2_near s_p2_sets s_p2_through Q)) ∧ (¬ (1000000 : Int32) ≤ x_4 → ((s_p0_depth < 0 → (w_X2_match_133 s_p0_depth s_p0_tryCount s_p0_isSpent s_p0_isFound s_p0_images s_p0_left s_p0_used s_p1_size s_p1_lineCount s_p1_near s_p1_sets s_p1_through s_p2_size s_p2_lineCount s_p2_near s_p2_sets s_p2_through Q)) ∧ (¬ s_p0_depth < 0 → ((¬ s_p0_isFound = 0 → (w_X2_match_133 s_p0_depth s_p0_tryCount s_p0_isSpent s_p0_isFound s_p0_images s_p0_left s_p0_used s_p1_size s_p1_lineCount s_p1_near s_p1_sets s_p1_through s_p2_size s_p2_lineCount s_p2_near s_p2_sets s_p2_through Q)) ∧ (s_p0_isFound = 0 → (vp_in s_p0_depth 46 ∧ ((¬ (lg_cmp (s_p0_left (s_p0_depth).toNatClampNeg) (0 : Int64)) = 0 → ((¬ s_p0_tryCount = x_3 → (w_X2_take s_p0_depth s_p0_tryCount s_p0_isFound s_p0_images s_p0_left s_p0_used s_p1_size s_p1_lineCount s_p1_near s_p1_sets s_p1_through s_p2_size s_p2_lineCount s_p2_near s_p2_sets s_p2_through (fun (u_124_0 : Int32) (u_124_1 : Int32) (u_124_2 : Int32) (u_124_3 : Nat → Int32) (u_124_4 : Nat → Int64) (u_124_5 : Nat → Int64) => (w_X2_match_127 x_3 x_4 u_124_0 u_124_1 s_p0_isSpent u_124_2 u_124_3 u_124_4 u_124_5 s_p1_size s_p1_lineCount s_p1_near s_p1_sets s_p1_through s_p2_size s_p2_lineCount s_p2_near s_p2_sets s_p2_through K_59 Q)))) ∧ (s_p0_tryCount = x_3 → (Q s_p0_depth s_p0_tryCount (1 : Int32) s_p0_isFound s_p0_images s_p0_left s_p0_used)))) ∧ ((lg_cmp (s_p0_left (s_p0_depth).toNatClampNeg) (0 : Int64)) = 0 → (w_X2_match_127 x_3 x_4 (s_p0_depth - (1 : Int32)) s_p0_tryCount s_p0_isSpent s_p0_isFound s_p0_images s_p0_left s_p0_used s_p1_size s_p1_lineCount s_p1_near s_p1_sets s_p1_through s_p2_size s_p2_lineCount s_p2_near s_p2_sets s_p2_through K_59 Q))))))))))
def w_X2_match_59 (x_3 : Int32) (s_p0_isSpent : Int32) (s_p1_size : Int32) (s_p1_lineCount : Int32) (s_p1_near : Nat → Int64) (s_p1_sets : Nat → Int64) (s_p1_through : Nat → Int64) (s_p2_size : Int32) (s_p2_lineCount : Int32) (s_p2_near : Nat → Int64) (s_p2_sets : Nat → Int64) (s_p2_through : Nat → Int64) (Q : (Int32) → (Int32) → (Int32) → (Int32) → (Nat → Int32) → (Nat → Int64) → (Nat → Int64) → Prop) : Nat → (Int32) → (Int32) → (Int32) → (Int32) → (Nat → Int32) → (Nat → Int64) → (Nat → Int64) → Prop
  | 0 => fun _ _ _ _ _ _ _ => False
  | n_ + 1 => w_X2_match_59s x_3 s_p0_isSpent s_p1_size s_p1_lineCount s_p1_near s_p1_sets s_p1_through s_p2_size s_p2_lineCount s_p2_near s_p2_sets s_p2_through Q (w_X2_match_59 x_3 s_p0_isSpent s_p1_size s_p1_lineCount s_p1_near s_p1_sets s_p1_through s_p2_size s_p2_lineCount s_p2_near s_p2_sets s_p2_through Q n_)
def w_X2_match_37 (s_p0_depth : Int32) (s_p0_tryCount : Int32) (s_p0_isSpent : Int32) (s_p0_isFound : Int32) (s_p0_images : Nat → Int32) (s_p0_left : Nat → Int64) (s_p0_used : Nat → Int64) (s_p1_size : Int32) (s_p1_lineCount : Int32) (s_p1_near : Nat → Int64) (s_p1_sets : Nat → Int64) (s_p1_through : Nat → Int64) (s_p2_size : Int32) (s_p2_lineCount : Int32) (s_p2_near : Nat → Int64) (s_p2_sets : Nat → Int64) (s_p2_through : Nat → Int64) (Q : (Int32) → (Int32) → (Int32) → (Int32) → (Nat → Int32) → (Nat → Int64) → (Nat → Int64) → Prop) : Prop := (Q s_p0_depth s_p0_tryCount s_p0_isSpent s_p0_isFound s_p0_images s_p0_left s_p0_used)
def w_X2_match (x_3 : Int32) (s_p0_depth : Int32) (s_p0_tryCount : Int32) (s_p0_isSpent : Int32) (s_p0_isFound : Int32) (s_p0_images : Nat → Int32) (s_p0_left : Nat → Int64) (s_p0_used : Nat → Int64) (s_p1_size : Int32) (s_p1_lineCount : Int32) (s_p1_near : Nat → Int64) (s_p1_sets : Nat → Int64) (s_p1_through : Nat → Int64) (s_p2_size : Int32) (s_p2_lineCount : Int32) (s_p2_near : Nat → Int64) (s_p2_sets : Nat → Int64) (s_p2_through : Nat → Int64) (Q : (Int32) → (Int32) → (Int32) → (Int32) → (Nat → Int32) → (Nat → Int64) → (Nat → Int64) → Prop) : Prop := ((¬ s_p1_size = s_p2_size → (w_X2_match_37 s_p0_depth (0 : Int32) (0 : Int32) (0 : Int32) s_p0_images s_p0_left s_p0_used s_p1_size s_p1_lineCount s_p1_near s_p1_sets s_p1_through s_p2_size s_p2_lineCount s_p2_near s_p2_sets s_p2_through Q)) ∧ (s_p1_size = s_p2_size → ((s_p1_lineCount = s_p2_lineCount → (vp_in (0 : Int32) 46 ∧ (w_X2_open (0 : Int32) (0 : Int32) s_p0_images s_p0_left (vp_updL s_p0_used ((0 : Int32)).toNatClampNeg (0 : Int64)) s_p1_size s_p1_lineCount s_p1_near s_p1_sets s_p1_through s_p2_size s_p2_lineCount s_p2_near s_p2_sets s_p2_through (fun (u_53_0 : Int32) (u_53_1 : Nat → Int64) => (∃ n_, w_X2_match_59 x_3 (0 : Int32) s_p1_size s_p1_lineCount s_p1_near s_p1_sets s_p1_through s_p2_size s_p2_lineCount s_p2_near s_p2_sets s_p2_through Q n_ (0 : Int32) (0 : Int32) (0 : Int32) u_53_0 s_p0_images u_53_1 (vp_updL s_p0_used ((0 : Int32)).toNatClampNeg (0 : Int64))))))) ∧ (¬ s_p1_lineCount = s_p2_lineCount → (w_X2_match_37 s_p0_depth (0 : Int32) (0 : Int32) (0 : Int32) s_p0_images s_p0_left s_p0_used s_p1_size s_p1_lineCount s_p1_near s_p1_sets s_p1_through s_p2_size s_p2_lineCount s_p2_near s_p2_sets s_p2_through Q)))))
-- X2_match
theorem iX2_match_X2 : ∀ w ∈ wsX20, w ∈ wsX2_match := by decide +kernel
theorem iX2_match_X5 : ∀ w ∈ wsX50, w ∈ wsX2_match := by decide +kernel
set_option maxHeartbeats 4000000 in
set_option maxRecDepth 100000 in
theorem k_X2_match_133 {E : vE} {T : Nat → ClassId} {o_p0 : Nat} {a_p0 : Nat → Nat} {o_p1 : Nat} {a_p1 : Nat → Nat} {o_p2 : Nat} {a_p2 : Nat → Nat} {s_p0_depth : Int32} {s_p0_tryCount : Int32} {s_p0_isSpent : Int32} {s_p0_isFound : Int32} {s_p0_images : Nat → Int32} {s_p0_left : Nat → Int64} {s_p0_used : Nat → Int64} {s_p1_there : Int32} {s_p1_kind : Int32} {s_p1_tag : Int32} {s_p1_size : Int32} {s_p1_lineCount : Int32} {s_p1_near : Nat → Int64} {s_p1_sets : Nat → Int64} {s_p1_through : Nat → Int64} {s_p2_there : Int32} {s_p2_kind : Int32} {s_p2_tag : Int32} {s_p2_size : Int32} {s_p2_lineCount : Int32} {s_p2_near : Nat → Int64} {s_p2_sets : Nat → Int64} {s_p2_through : Nat → Int64} {Q : (Int32) → (Int32) → (Int32) → (Int32) → (Nat → Int32) → (Nat → Int64) → (Nat → Int64) → Prop} (X : vX E cX2_match 5 RX2 wsX2_match (vT T) (vr 5 123)) (r : r_X2_match E T o_p0 a_p0 o_p1 a_p1 o_p2 a_p2 s_p1_there s_p1_kind s_p1_tag s_p1_size s_p1_lineCount s_p1_near s_p1_sets s_p1_through s_p2_there s_p2_kind s_p2_tag s_p2_size s_p2_lineCount s_p2_near s_p2_sets s_p2_through Q) (h : w_X2_match_133 s_p0_depth s_p0_tryCount s_p0_isSpent s_p0_isFound s_p0_images s_p0_left s_p0_used s_p1_size s_p1_lineCount s_p1_near s_p1_sets s_p1_through s_p2_size s_p2_lineCount s_p2_near s_p2_sets s_p2_through Q) : V E 0 0 133 [] [] (cl_X2_match T o_p0 a_p0 o_p1 a_p1 o_p2 a_p2 s_p0_depth s_p0_tryCount s_p0_isSpent s_p0_isFound s_p0_images s_p0_left s_p0_used s_p1_there s_p1_kind s_p1_tag s_p1_size s_p1_lineCount s_p1_near s_p1_sets s_p1_through s_p2_there s_p2_kind s_p2_tag s_p2_size s_p2_lineCount s_p2_near s_p2_sets s_p2_through) := by
  unfold w_X2_match_133 at h
  exact r _ _ (s_p0_depth, s_p0_tryCount, s_p0_isSpent, s_p0_isFound, s_p0_images, s_p0_left, s_p0_used) _ dX2_match_133 h rfl
set_option maxHeartbeats 4000000 in
set_option maxRecDepth 100000 in
theorem k_X2_match_127 {E : vE} {T : Nat → ClassId} {o_p0 : Nat} {a_p0 : Nat → Nat} {o_p1 : Nat} {a_p1 : Nat → Nat} {o_p2 : Nat} {a_p2 : Nat → Nat} {s_p0_depth : Int32} {s_p0_tryCount : Int32} {s_p0_isSpent : Int32} {s_p0_isFound : Int32} {s_p0_images : Nat → Int32} {s_p0_left : Nat → Int64} {s_p0_used : Nat → Int64} {s_p1_there : Int32} {s_p1_kind : Int32} {s_p1_tag : Int32} {s_p1_size : Int32} {s_p1_lineCount : Int32} {s_p1_near : Nat → Int64} {s_p1_sets : Nat → Int64} {s_p1_through : Nat → Int64} {s_p2_there : Int32} {s_p2_kind : Int32} {s_p2_tag : Int32} {s_p2_size : Int32} {s_p2_lineCount : Int32} {s_p2_near : Nat → Int64} {s_p2_sets : Nat → Int64} {s_p2_through : Nat → Int64} {x_3 : Int32} {x_4 : Int32} {K_59 : (Int32) → (Int32) → (Int32) → (Int32) → (Nat → Int32) → (Nat → Int64) → (Nat → Int64) → Prop} {Q : (Int32) → (Int32) → (Int32) → (Int32) → (Nat → Int32) → (Nat → Int64) → (Nat → Int64) → Prop} (X : vX E cX2_match 5 RX2 wsX2_match (vT T) (vr 5 123)) (r : r_X2_match E T o_p0 a_p0 o_p1 a_p1 o_p2 a_p2 s_p1_there s_p1_kind s_p1_tag s_p1_size s_p1_lineCount s_p1_near s_p1_sets s_p1_through s_p2_there s_p2_kind s_p2_tag s_p2_size s_p2_lineCount s_p2_near s_p2_sets s_p2_through Q) (hK_59 : ∀ (x_4' : Int32) (s_p0_depth' : Int32) (s_p0_tryCount' : Int32) (s_p0_isFound' : Int32) (s_p0_images' : Nat → Int32) (s_p0_left' : Nat → Int64) (s_p0_used' : Nat → Int64), K_59 x_4' s_p0_depth' s_p0_tryCount' s_p0_isFound' s_p0_images' s_p0_left' s_p0_used' → V E 0 0 59 [(0, .ref o_p0), (1, .ref o_p1), (2, .ref o_p2), (3, .int x_3), (4, .int x_4')] [] (cl_X2_match T o_p0 a_p0 o_p1 a_p1 o_p2 a_p2 s_p0_depth' s_p0_tryCount' s_p0_isSpent s_p0_isFound' s_p0_images' s_p0_left' s_p0_used' s_p1_there s_p1_kind s_p1_tag s_p1_size s_p1_lineCount s_p1_near s_p1_sets s_p1_through s_p2_there s_p2_kind s_p2_tag s_p2_size s_p2_lineCount s_p2_near s_p2_sets s_p2_through)) (h : w_X2_match_127 x_3 x_4 s_p0_depth s_p0_tryCount s_p0_isSpent s_p0_isFound s_p0_images s_p0_left s_p0_used s_p1_size s_p1_lineCount s_p1_near s_p1_sets s_p1_through s_p2_size s_p2_lineCount s_p2_near s_p2_sets s_p2_through K_59 Q) : V E 0 0 127 [(0, .ref o_p0), (1, .ref o_p1), (2, .ref o_p2), (3, .int x_3), (4, .int x_4)] [] (cl_X2_match T o_p0 a_p0 o_p1 a_p1 o_p2 a_p2 s_p0_depth s_p0_tryCount s_p0_isSpent s_p0_isFound s_p0_images s_p0_left s_p0_used s_p1_there s_p1_kind s_p1_tag s_p1_size s_p1_lineCount s_p1_near s_p1_sets s_p1_through s_p2_there s_p2_kind s_p2_tag s_p2_size s_p2_lineCount s_p2_near s_p2_sets s_p2_through) := by
  unfold w_X2_match_127 at h
  refine v_iinc X (v := (x_4 + (1 : Int32))) (lv' := [(4, .int (x_4 + (1 : Int32))), (0, .ref o_p0), (1, .ref o_p1), (2, .ref o_p2), (3, .int x_3)]) 4 dX2_match_127 rfl rfl (by decide) rfl ?_
  refine v_goto X (tgt := 59) dX2_match_130 (by decide) ?_
  refine v_lv (lv' := [(0, .ref o_p0), (1, .ref o_p1), (2, .ref o_p2), (3, .int x_3), (4, .int (x_4 + (1 : Int32)))]) [1, 2, 3, 4, 0] rfl ?_
  exact hK_59 _ _ _ _ _ _ _ h
set_option maxHeartbeats 4000000 in
set_option maxRecDepth 100000 in
theorem k_X2_match_59 {E : vE} {T : Nat → ClassId} {o_p0 : Nat} {a_p0 : Nat → Nat} {o_p1 : Nat} {a_p1 : Nat → Nat} {o_p2 : Nat} {a_p2 : Nat → Nat} {s_p0_isSpent : Int32} {s_p1_there : Int32} {s_p1_kind : Int32} {s_p1_tag : Int32} {s_p1_size : Int32} {s_p1_lineCount : Int32} {s_p1_near : Nat → Int64} {s_p1_sets : Nat → Int64} {s_p1_through : Nat → Int64} {s_p2_there : Int32} {s_p2_kind : Int32} {s_p2_tag : Int32} {s_p2_size : Int32} {s_p2_lineCount : Int32} {s_p2_near : Nat → Int64} {s_p2_sets : Nat → Int64} {s_p2_through : Nat → Int64} {x_3 : Int32} {Q : (Int32) → (Int32) → (Int32) → (Int32) → (Nat → Int32) → (Nat → Int64) → (Nat → Int64) → Prop} (X : vX E cX2_match 5 RX2 wsX2_match (vT T) (vr 5 123)) (r : r_X2_match E T o_p0 a_p0 o_p1 a_p1 o_p2 a_p2 s_p1_there s_p1_kind s_p1_tag s_p1_size s_p1_lineCount s_p1_near s_p1_sets s_p1_through s_p2_there s_p2_kind s_p2_tag s_p2_size s_p2_lineCount s_p2_near s_p2_sets s_p2_through Q) : ∀ (n_ : Nat) (x_4 : Int32) (s_p0_depth : Int32) (s_p0_tryCount : Int32) (s_p0_isFound : Int32) (s_p0_images : Nat → Int32) (s_p0_left : Nat → Int64) (s_p0_used : Nat → Int64), w_X2_match_59 x_3 s_p0_isSpent s_p1_size s_p1_lineCount s_p1_near s_p1_sets s_p1_through s_p2_size s_p2_lineCount s_p2_near s_p2_sets s_p2_through Q n_ x_4 s_p0_depth s_p0_tryCount s_p0_isFound s_p0_images s_p0_left s_p0_used → V E 0 0 59 [(0, .ref o_p0), (1, .ref o_p1), (2, .ref o_p2), (3, .int x_3), (4, .int x_4)] [] (cl_X2_match T o_p0 a_p0 o_p1 a_p1 o_p2 a_p2 s_p0_depth s_p0_tryCount s_p0_isSpent s_p0_isFound s_p0_images s_p0_left s_p0_used s_p1_there s_p1_kind s_p1_tag s_p1_size s_p1_lineCount s_p1_near s_p1_sets s_p1_through s_p2_there s_p2_kind s_p2_tag s_p2_size s_p2_lineCount s_p2_near s_p2_sets s_p2_through) := by
  intro n_
  induction n_ with
  | zero => intro x_4 s_p0_depth s_p0_tryCount s_p0_isFound s_p0_images s_p0_left s_p0_used h; exact h.elim
  | succ n_ hK_59 =>
    intro x_4 s_p0_depth s_p0_tryCount s_p0_isFound s_p0_images s_p0_left s_p0_used h
    replace h : w_X2_match_59s x_3 s_p0_isSpent s_p1_size s_p1_lineCount s_p1_near s_p1_sets s_p1_through s_p2_size s_p2_lineCount s_p2_near s_p2_sets s_p2_through Q (w_X2_match_59 x_3 s_p0_isSpent s_p1_size s_p1_lineCount s_p1_near s_p1_sets s_p1_through s_p2_size s_p2_lineCount s_p2_near s_p2_sets s_p2_through Q n_) x_4 s_p0_depth s_p0_tryCount s_p0_isFound s_p0_images s_p0_left s_p0_used := h
    unfold w_X2_match_59s at h
    refine v_iload X 4 dX2_match_59 rfl ?_
    refine v_ldc X (v := (1000000 : Int32)) (List.mem_of_getElem? (i := 6) rfl) dX2_match_61 ?_
    refine v_icmp_ge X (tgt := 133) dX2_match_63 (by decide) (fun c_63 => ?_) (fun c_63 => ?_)
    · replace h := h.1 c_63
      refine v_lv (lv' := []) [] rfl ?_
      exact k_X2_match_133 X r h
    · replace h := h.2 c_63
      refine v_aload_n X 0 dX2_match_66 rfl rfl ?_
      refine v_get X 0 3 (F := TX2) (N := 7) iX2_match_X2 rfl rfl (by decide) (List.mem_of_getElem? (i := 4) rfl) rfl rfl dX2_match_67 ?_
      refine v_if_lt X (tgt := 133) dX2_match_70 (by decide) (fun c_70 => ?_) (fun c_70 => ?_)
      · replace h := h.1 c_70
        refine v_lv (lv' := []) [] rfl ?_
        exact k_X2_match_133 X r h
      · replace h := h.2 c_70
        refine v_aload_n X 0 dX2_match_73 rfl rfl ?_
        refine v_get X 0 6 (F := TX2) (N := 7) iX2_match_X2 rfl rfl (by decide) (List.mem_of_getElem? (i := 3) rfl) rfl rfl dX2_match_74 ?_
        refine v_if_ne X (tgt := 133) dX2_match_77 (by decide) (fun c_77 => ?_) (fun c_77 => ?_)
        · replace h := h.1 c_77
          refine v_lv (lv' := []) [] rfl ?_
          exact k_X2_match_133 X r h
        · replace h := h.2 c_77
          refine v_aload_n X 0 dX2_match_80 rfl rfl ?_
          refine v_get X 0 2 (F := TX2) (N := 7) iX2_match_X2 rfl rfl (by decide) (List.mem_of_getElem? (i := 7) rfl) rfl rfl dX2_match_81 ?_
          refine v_aload_n X 0 dX2_match_84 rfl rfl ?_
          refine v_get X 0 3 (F := TX2) (N := 7) iX2_match_X2 rfl rfl (by decide) (List.mem_of_getElem? (i := 4) rfl) rfl rfl dX2_match_85 ?_
          refine v_lald X 2 1 rfl rfl h.1 dX2_match_88 ?_
          replace h := h.2
          refine v_lconst X dX2_match_89 (v := (0 : Int64)) (by decide) ?_
          refine v_lcmp X dX2_match_90 ?_
          refine v_if_ne X (tgt := 107) dX2_match_91 (by decide) (fun c_91 => ?_) (fun c_91 => ?_)
          · replace h := h.1 c_91
            refine v_aload_n X 0 dX2_match_107 rfl rfl ?_
            refine v_get X 0 4 (F := TX2) (N := 7) iX2_match_X2 rfl rfl (by decide) (List.mem_of_getElem? (i := 1) rfl) rfl rfl dX2_match_108 ?_
            refine v_iload_n X 3 dX2_match_111 rfl rfl ?_
            refine v_icmp_ne X (tgt := 121) dX2_match_112 (by decide) (fun c_112 => ?_) (fun c_112 => ?_)
            · replace h := h.1 c_112
              refine v_aload_n X 0 dX2_match_121 rfl rfl ?_
              refine v_aload_n X 1 dX2_match_122 rfl rfl ?_
              refine v_aload_n X 2 dX2_match_123 rfl rfl ?_
              refine v_callVv X (As := [.ref o_p1, .ref o_p2]) (rest := []) 2 0 (c_X2_take (l := vl E) (D := vD E) (T := T) (o_p0 := o_p0) (a_p0 := a_p0) (o_p1 := o_p1) (a_p1 := a_p1) (o_p2 := o_p2) (a_p2 := a_p2) (s_p0_depth := s_p0_depth) (s_p0_tryCount := s_p0_tryCount) (s_p0_isSpent := s_p0_isSpent) (s_p0_isFound := s_p0_isFound) (s_p0_images := s_p0_images) (s_p0_left := s_p0_left) (s_p0_used := s_p0_used) (s_p1_there := s_p1_there) (s_p1_kind := s_p1_kind) (s_p1_tag := s_p1_tag) (s_p1_size := s_p1_size) (s_p1_lineCount := s_p1_lineCount) (s_p1_near := s_p1_near) (s_p1_sets := s_p1_sets) (s_p1_through := s_p1_through) (s_p2_there := s_p2_there) (s_p2_kind := s_p2_kind) (s_p2_tag := s_p2_tag) (s_p2_size := s_p2_size) (s_p2_lineCount := s_p2_lineCount) (s_p2_near := s_p2_near) (s_p2_sets := s_p2_sets) (s_p2_through := s_p2_through) h) gX2_match_X2_take rfl rfl (by decide +kernel) ⟨Nat.zero_le _, Nat.zero_le _⟩ ⟨rfl, rfl, by decide, by decide⟩ (Nat.le_of_ble_eq_true rfl) rfl rfl (wr := []) [0, 1, 2, 3, 4, 5, 6, 7, 8, 9, 10, 11] [] rfl rfl rfl rfl (by decide) rfl dX2_match_124 (fun u h => ?_)
              obtain ⟨u_124_0, u_124_1, u_124_2, u_124_3, u_124_4, u_124_5⟩ := u
              dsimp only at h
              refine v_ws (ws' := (cl_X2_match T o_p0 a_p0 o_p1 a_p1 o_p2 a_p2 u_124_0 u_124_1 s_p0_isSpent u_124_2 u_124_3 u_124_4 u_124_5 s_p1_there s_p1_kind s_p1_tag s_p1_size s_p1_lineCount s_p1_near s_p1_sets s_p1_through s_p2_there s_p2_kind s_p2_tag s_p2_size s_p2_lineCount s_p2_near s_p2_sets s_p2_through)) [0, 1, 2, 3, 4, 5, 6, 7, 8, 9, 10, 11] rfl rfl ?_
              exact k_X2_match_127 X r hK_59 h
            · replace h := h.2 c_112
              refine v_aload_n X 0 dX2_match_115 rfl rfl ?_
              refine v_iconst X dX2_match_116 (v := (1 : Int32)) (by decide) ?_
              refine v_put X (ws' := (cl_X2_match T o_p0 a_p0 o_p1 a_p1 o_p2 a_p2 s_p0_depth s_p0_tryCount (1 : Int32) s_p0_isFound s_p0_images s_p0_left s_p0_used s_p1_there s_p1_kind s_p1_tag s_p1_size s_p1_lineCount s_p1_near s_p1_sets s_p1_through s_p2_there s_p2_kind s_p2_tag s_p2_size s_p2_lineCount s_p2_near s_p2_sets s_p2_through)) 0 5 (F := TX2) (N := 7) iX2_match_X2 rfl tyX2 tyX2_ok nmX2 rfl (by decide) (List.mem_of_getElem? (i := 2) rfl) rfl rfl rfl (by decide) (by decide) (Nat.le_of_ble_eq_true rfl) rfl dX2_match_117 ?_
              exact r _ _ (s_p0_depth, s_p0_tryCount, (1 : Int32), s_p0_isFound, s_p0_images, s_p0_left, s_p0_used) _ dX2_match_120 h rfl
          · replace h := h.2 c_91
            refine v_aload_n X 0 dX2_match_94 rfl rfl ?_
            refine v_dup X dX2_match_95 rfl ?_
            refine v_get X 0 3 (F := TX2) (N := 7) iX2_match_X2 rfl rfl (by decide) (List.mem_of_getElem? (i := 4) rfl) rfl rfl dX2_match_96 ?_
            refine v_iconst X dX2_match_99 (v := (1 : Int32)) (by decide) ?_
            refine v_isub X dX2_match_100 ?_
            refine v_put X (ws' := (cl_X2_match T o_p0 a_p0 o_p1 a_p1 o_p2 a_p2 (s_p0_depth - (1 : Int32)) s_p0_tryCount s_p0_isSpent s_p0_isFound s_p0_images s_p0_left s_p0_used s_p1_there s_p1_kind s_p1_tag s_p1_size s_p1_lineCount s_p1_near s_p1_sets s_p1_through s_p2_there s_p2_kind s_p2_tag s_p2_size s_p2_lineCount s_p2_near s_p2_sets s_p2_through)) 0 3 (F := TX2) (N := 7) iX2_match_X2 rfl tyX2 tyX2_ok nmX2 rfl (by decide) (List.mem_of_getElem? (i := 4) rfl) rfl rfl rfl rfl rfl (Nat.le_of_ble_eq_true rfl) rfl dX2_match_101 ?_
            refine v_goto X (tgt := 127) dX2_match_104 (by decide) ?_
            exact k_X2_match_127 X r hK_59 h
set_option maxHeartbeats 4000000 in
set_option maxRecDepth 100000 in
theorem k_X2_match_37 {E : vE} {T : Nat → ClassId} {o_p0 : Nat} {a_p0 : Nat → Nat} {o_p1 : Nat} {a_p1 : Nat → Nat} {o_p2 : Nat} {a_p2 : Nat → Nat} {s_p0_depth : Int32} {s_p0_tryCount : Int32} {s_p0_isSpent : Int32} {s_p0_isFound : Int32} {s_p0_images : Nat → Int32} {s_p0_left : Nat → Int64} {s_p0_used : Nat → Int64} {s_p1_there : Int32} {s_p1_kind : Int32} {s_p1_tag : Int32} {s_p1_size : Int32} {s_p1_lineCount : Int32} {s_p1_near : Nat → Int64} {s_p1_sets : Nat → Int64} {s_p1_through : Nat → Int64} {s_p2_there : Int32} {s_p2_kind : Int32} {s_p2_tag : Int32} {s_p2_size : Int32} {s_p2_lineCount : Int32} {s_p2_near : Nat → Int64} {s_p2_sets : Nat → Int64} {s_p2_through : Nat → Int64} {Q : (Int32) → (Int32) → (Int32) → (Int32) → (Nat → Int32) → (Nat → Int64) → (Nat → Int64) → Prop} (X : vX E cX2_match 5 RX2 wsX2_match (vT T) (vr 5 123)) (r : r_X2_match E T o_p0 a_p0 o_p1 a_p1 o_p2 a_p2 s_p1_there s_p1_kind s_p1_tag s_p1_size s_p1_lineCount s_p1_near s_p1_sets s_p1_through s_p2_there s_p2_kind s_p2_tag s_p2_size s_p2_lineCount s_p2_near s_p2_sets s_p2_through Q) (h : w_X2_match_37 s_p0_depth s_p0_tryCount s_p0_isSpent s_p0_isFound s_p0_images s_p0_left s_p0_used s_p1_size s_p1_lineCount s_p1_near s_p1_sets s_p1_through s_p2_size s_p2_lineCount s_p2_near s_p2_sets s_p2_through Q) : V E 0 0 37 [] [] (cl_X2_match T o_p0 a_p0 o_p1 a_p1 o_p2 a_p2 s_p0_depth s_p0_tryCount s_p0_isSpent s_p0_isFound s_p0_images s_p0_left s_p0_used s_p1_there s_p1_kind s_p1_tag s_p1_size s_p1_lineCount s_p1_near s_p1_sets s_p1_through s_p2_there s_p2_kind s_p2_tag s_p2_size s_p2_lineCount s_p2_near s_p2_sets s_p2_through) := by
  unfold w_X2_match_37 at h
  exact r _ _ (s_p0_depth, s_p0_tryCount, s_p0_isSpent, s_p0_isFound, s_p0_images, s_p0_left, s_p0_used) _ dX2_match_37 h rfl
set_option maxHeartbeats 4000000 in
set_option maxRecDepth 100000 in
theorem c_X2_match {l : Launch} {D : va_G} {T : Nat → ClassId} {o_p0 : Nat} {a_p0 : Nat → Nat} {o_p1 : Nat} {a_p1 : Nat → Nat} {o_p2 : Nat} {a_p2 : Nat → Nat} {s_p0_depth : Int32} {s_p0_tryCount : Int32} {s_p0_isSpent : Int32} {s_p0_isFound : Int32} {s_p0_images : Nat → Int32} {s_p0_left : Nat → Int64} {s_p0_used : Nat → Int64} {s_p1_there : Int32} {s_p1_kind : Int32} {s_p1_tag : Int32} {s_p1_size : Int32} {s_p1_lineCount : Int32} {s_p1_near : Nat → Int64} {s_p1_sets : Nat → Int64} {s_p1_through : Nat → Int64} {s_p2_there : Int32} {s_p2_kind : Int32} {s_p2_tag : Int32} {s_p2_size : Int32} {s_p2_lineCount : Int32} {s_p2_near : Nat → Int64} {s_p2_sets : Nat → Int64} {s_p2_through : Nat → Int64} {x_3 : Int32} {Q : (Int32) → (Int32) → (Int32) → (Int32) → (Nat → Int32) → (Nat → Int64) → (Nat → Int64) → Prop} (h : w_X2_match x_3 s_p0_depth s_p0_tryCount s_p0_isSpent s_p0_isFound s_p0_images s_p0_left s_p0_used s_p1_size s_p1_lineCount s_p1_near s_p1_sets s_p1_through s_p2_size s_p2_lineCount s_p2_near s_p2_sets s_p2_through Q) : vCv l D (vT T) yX2_match wsX2_match (vr 5 123) [.ref o_p0, .ref o_p1, .ref o_p2, .int x_3] (cl_X2_match T o_p0 a_p0 o_p1 a_p1 o_p2 a_p2 s_p0_depth s_p0_tryCount s_p0_isSpent s_p0_isFound s_p0_images s_p0_left s_p0_used s_p1_there s_p1_kind s_p1_tag s_p1_size s_p1_lineCount s_p1_near s_p1_sets s_p1_through s_p2_there s_p2_kind s_p2_tag s_p2_size s_p2_lineCount s_p2_near s_p2_sets s_p2_through) (fun (u : (Int32) × (Int32) × (Int32) × (Int32) × (Nat → Int32) × (Nat → Int64) × (Nat → Int64)) => Q u.1 u.2.1 u.2.2.1 u.2.2.2.1 u.2.2.2.2.1 u.2.2.2.2.2.1 u.2.2.2.2.2.2) (fun (u : (Int32) × (Int32) × (Int32) × (Int32) × (Nat → Int32) × (Nat → Int64) × (Nat → Int64)) => (cl_X2_match T o_p0 a_p0 o_p1 a_p1 o_p2 a_p2 u.1 u.2.1 u.2.2.1 u.2.2.2.1 u.2.2.2.2.1 u.2.2.2.2.2.1 u.2.2.2.2.2.2 s_p1_there s_p1_kind s_p1_tag s_p1_size s_p1_lineCount s_p1_near s_p1_sets s_p1_through s_p2_there s_p2_kind s_p2_tag s_p2_size s_p2_lineCount s_p2_near s_p2_sets s_p2_through)) := by
  refine vC_v (cc := cX2_match) (nL := 5) (by decide +kernel) rfl ⟨rfl, rfl⟩ (Nat.le_of_ble_eq_true rfl) rfl ?_
  intro E el eD X r
  unfold w_X2_match at h
  refine v_aload_n X 0 dX2_match_0 rfl rfl ?_
  refine v_iconst X dX2_match_1 (v := (0 : Int32)) (by decide) ?_
  refine v_put X (ws' := (cl_X2_match T o_p0 a_p0 o_p1 a_p1 o_p2 a_p2 s_p0_depth (0 : Int32) s_p0_isSpent s_p0_isFound s_p0_images s_p0_left s_p0_used s_p1_there s_p1_kind s_p1_tag s_p1_size s_p1_lineCount s_p1_near s_p1_sets s_p1_through s_p2_there s_p2_kind s_p2_tag s_p2_size s_p2_lineCount s_p2_near s_p2_sets s_p2_through)) 0 4 (F := TX2) (N := 7) iX2_match_X2 rfl tyX2 tyX2_ok nmX2 rfl (by decide) (List.mem_of_getElem? (i := 1) rfl) rfl rfl rfl rfl rfl (Nat.le_of_ble_eq_true rfl) rfl dX2_match_2 ?_
  refine v_aload_n X 0 dX2_match_5 rfl rfl ?_
  refine v_iconst X dX2_match_6 (v := (0 : Int32)) (by decide) ?_
  refine v_put X (ws' := (cl_X2_match T o_p0 a_p0 o_p1 a_p1 o_p2 a_p2 s_p0_depth (0 : Int32) (0 : Int32) s_p0_isFound s_p0_images s_p0_left s_p0_used s_p1_there s_p1_kind s_p1_tag s_p1_size s_p1_lineCount s_p1_near s_p1_sets s_p1_through s_p2_there s_p2_kind s_p2_tag s_p2_size s_p2_lineCount s_p2_near s_p2_sets s_p2_through)) 0 5 (F := TX2) (N := 7) iX2_match_X2 rfl tyX2 tyX2_ok nmX2 rfl (by decide) (List.mem_of_getElem? (i := 2) rfl) rfl rfl rfl (by decide) (by decide) (Nat.le_of_ble_eq_true rfl) rfl dX2_match_7 ?_
  refine v_aload_n X 0 dX2_match_10 rfl rfl ?_
  refine v_iconst X dX2_match_11 (v := (0 : Int32)) (by decide) ?_
  refine v_put X (ws' := (cl_X2_match T o_p0 a_p0 o_p1 a_p1 o_p2 a_p2 s_p0_depth (0 : Int32) (0 : Int32) (0 : Int32) s_p0_images s_p0_left s_p0_used s_p1_there s_p1_kind s_p1_tag s_p1_size s_p1_lineCount s_p1_near s_p1_sets s_p1_through s_p2_there s_p2_kind s_p2_tag s_p2_size s_p2_lineCount s_p2_near s_p2_sets s_p2_through)) 0 6 (F := TX2) (N := 7) iX2_match_X2 rfl tyX2 tyX2_ok nmX2 rfl (by decide) (List.mem_of_getElem? (i := 3) rfl) rfl rfl rfl (by decide) (by decide) (Nat.le_of_ble_eq_true rfl) rfl dX2_match_12 ?_
  refine v_aload_n X 1 dX2_match_15 rfl rfl ?_
  refine v_getN X 4 6 (F := TX5) (N := 8) iX2_match_X5 rfl rfl (by decide) (List.mem_of_getElem? (i := 27) rfl) rfl rfl dX2_match_16 ?_
  refine v_aload_n X 2 dX2_match_19 rfl rfl ?_
  refine v_getN X 8 6 (F := TX5) (N := 8) iX2_match_X5 rfl rfl (by decide) (List.mem_of_getElem? (i := 27) rfl) rfl rfl dX2_match_20 ?_
  refine v_icmp_ne X (tgt := 37) dX2_match_23 (by decide) (fun c_23 => ?_) (fun c_23 => ?_)
  · replace h := h.1 c_23
    refine v_lv (lv' := []) [] rfl ?_
    exact k_X2_match_37 X r h
  · replace h := h.2 c_23
    refine v_aload_n X 1 dX2_match_26 rfl rfl ?_
    refine v_getN X 4 7 (F := TX5) (N := 8) iX2_match_X5 rfl rfl (by decide) (List.mem_of_getElem? (i := 32) rfl) rfl rfl dX2_match_27 ?_
    refine v_aload_n X 2 dX2_match_30 rfl rfl ?_
    refine v_getN X 8 7 (F := TX5) (N := 8) iX2_match_X5 rfl rfl (by decide) (List.mem_of_getElem? (i := 32) rfl) rfl rfl dX2_match_31 ?_
    refine v_icmp_eq X (tgt := 38) dX2_match_34 (by decide) (fun c_34 => ?_) (fun c_34 => ?_)
    · replace h := h.1 c_34
      refine v_aload_n X 0 dX2_match_38 rfl rfl ?_
      refine v_iconst X dX2_match_39 (v := (0 : Int32)) (by decide) ?_
      refine v_put X (ws' := (cl_X2_match T o_p0 a_p0 o_p1 a_p1 o_p2 a_p2 (0 : Int32) (0 : Int32) (0 : Int32) (0 : Int32) s_p0_images s_p0_left s_p0_used s_p1_there s_p1_kind s_p1_tag s_p1_size s_p1_lineCount s_p1_near s_p1_sets s_p1_through s_p2_there s_p2_kind s_p2_tag s_p2_size s_p2_lineCount s_p2_near s_p2_sets s_p2_through)) 0 3 (F := TX2) (N := 7) iX2_match_X2 rfl tyX2 tyX2_ok nmX2 rfl (by decide) (List.mem_of_getElem? (i := 4) rfl) rfl rfl rfl rfl rfl (Nat.le_of_ble_eq_true rfl) rfl dX2_match_40 ?_
      refine v_aload_n X 0 dX2_match_43 rfl rfl ?_
      refine v_get X 0 1 (F := TX2) (N := 7) iX2_match_X2 rfl rfl (by decide) (List.mem_of_getElem? (i := 5) rfl) rfl rfl dX2_match_44 ?_
      refine v_iconst X dX2_match_47 (v := (0 : Int32)) (by decide) ?_
      refine v_lconst X dX2_match_48 (v := (0 : Int64)) (by decide) ?_
      refine v_last X (ws' := (cl_X2_match T o_p0 a_p0 o_p1 a_p1 o_p2 a_p2 (0 : Int32) (0 : Int32) (0 : Int32) (0 : Int32) s_p0_images s_p0_left (vp_updL s_p0_used ((0 : Int32)).toNatClampNeg (0 : Int64)) s_p1_there s_p1_kind s_p1_tag s_p1_size s_p1_lineCount s_p1_near s_p1_sets s_p1_through s_p2_there s_p2_kind s_p2_tag s_p2_size s_p2_lineCount s_p2_near s_p2_sets s_p2_through)) 3 1 rfl rfl h.1 rfl dX2_match_49 ?_
      replace h := h.2
      refine v_aload_n X 0 dX2_match_50 rfl rfl ?_
      refine v_aload_n X 1 dX2_match_51 rfl rfl ?_
      refine v_aload_n X 2 dX2_match_52 rfl rfl ?_
      refine v_callVv X (As := [.ref o_p1, .ref o_p2]) (rest := []) 2 0 (c_X2_open (l := vl E) (D := vD E) (T := T) (o_p0 := o_p0) (a_p0 := a_p0) (o_p1 := o_p1) (a_p1 := a_p1) (o_p2 := o_p2) (a_p2 := a_p2) (s_p0_depth := (0 : Int32)) (s_p0_tryCount := (0 : Int32)) (s_p0_isSpent := (0 : Int32)) (s_p0_isFound := (0 : Int32)) (s_p0_images := s_p0_images) (s_p0_left := s_p0_left) (s_p0_used := (vp_updL s_p0_used ((0 : Int32)).toNatClampNeg (0 : Int64))) (s_p1_there := s_p1_there) (s_p1_kind := s_p1_kind) (s_p1_tag := s_p1_tag) (s_p1_size := s_p1_size) (s_p1_lineCount := s_p1_lineCount) (s_p1_near := s_p1_near) (s_p1_sets := s_p1_sets) (s_p1_through := s_p1_through) (s_p2_there := s_p2_there) (s_p2_kind := s_p2_kind) (s_p2_tag := s_p2_tag) (s_p2_size := s_p2_size) (s_p2_lineCount := s_p2_lineCount) (s_p2_near := s_p2_near) (s_p2_sets := s_p2_sets) (s_p2_through := s_p2_through) h) gX2_match_X2_open rfl rfl (by decide +kernel) ⟨Nat.zero_le _, Nat.zero_le _⟩ ⟨rfl, rfl, by decide, by decide⟩ (Nat.le_of_ble_eq_true rfl) rfl rfl (wr := []) [0, 1, 2, 3, 4, 5, 6, 7, 8, 9, 10, 11] [] rfl rfl rfl rfl (by decide) rfl dX2_match_53 (fun u h => ?_)
      obtain ⟨u_53_0, u_53_1⟩ := u
      dsimp only at h
      refine v_ws (ws' := (cl_X2_match T o_p0 a_p0 o_p1 a_p1 o_p2 a_p2 (0 : Int32) (0 : Int32) (0 : Int32) u_53_0 s_p0_images u_53_1 (vp_updL s_p0_used ((0 : Int32)).toNatClampNeg (0 : Int64)) s_p1_there s_p1_kind s_p1_tag s_p1_size s_p1_lineCount s_p1_near s_p1_sets s_p1_through s_p2_there s_p2_kind s_p2_tag s_p2_size s_p2_lineCount s_p2_near s_p2_sets s_p2_through)) [0, 1, 2, 3, 4, 5, 6, 7, 8, 9, 10, 11] rfl rfl ?_
      refine v_iconst X dX2_match_56 (v := (0 : Int32)) (by decide) ?_
      refine v_istore X (lv' := [(4, .int (0 : Int32)), (0, .ref o_p0), (1, .ref o_p1), (2, .ref o_p2), (3, .int x_3)]) dX2_match_57 (by decide) rfl ?_
      refine v_lv (lv' := [(0, .ref o_p0), (1, .ref o_p1), (2, .ref o_p2), (3, .int x_3), (4, .int (0 : Int32))]) [1, 2, 3, 4, 0] rfl ?_
      obtain ⟨n_, h⟩ := h
      exact k_X2_match_59 X r n_ _ _ _ _ _ _ _ h
    · replace h := h.2 c_34
      refine v_lv (lv' := []) [] rfl ?_
      exact k_X2_match_37 X r h
abbrev cl_X2_match_a (T : Nat → ClassId) (o_p0 : Nat) (a_p0 : Nat → Nat) (o_p1 : Nat) (a_p1 : Nat → Nat) (s_p0_depth : Int32) (s_p0_tryCount : Int32) (s_p0_isSpent : Int32) (s_p0_isFound : Int32) (s_p0_images : Nat → Int32) (s_p0_left : Nat → Int64) (s_p0_used : Nat → Int64) (s_p1_there : Int32) (s_p1_kind : Int32) (s_p1_tag : Int32) (s_p1_size : Int32) (s_p1_lineCount : Int32) (s_p1_near : Nat → Int64) (s_p1_sets : Nat → Int64) (s_p1_through : Nat → Int64) : va_W := [vO o_p0 0 [.ref (a_p0 0), .ref (a_p0 1), .ref (a_p0 2), .int s_p0_depth, .int s_p0_tryCount, .int s_p0_isSpent, .int s_p0_isFound], vI T (a_p0 0) 45 s_p0_images, vJ T (a_p0 2) 46 s_p0_left, vJ T (a_p0 1) 46 s_p0_used, vO o_p1 2 [.ref (a_p1 0), .ref (a_p1 1), .ref (a_p1 2), .int s_p1_there, .int s_p1_kind, .int s_p1_tag, .int s_p1_size, .int s_p1_lineCount], vJ T (a_p1 2) 45 s_p1_near, vJ T (a_p1 0) 45 s_p1_sets, vJ T (a_p1 1) 45 s_p1_through]
abbrev r_X2_match_a (E : vE) (T : Nat → ClassId) (o_p0 : Nat) (a_p0 : Nat → Nat) (o_p1 : Nat) (a_p1 : Nat → Nat) (s_p1_there : Int32) (s_p1_kind : Int32) (s_p1_tag : Int32) (s_p1_size : Int32) (s_p1_lineCount : Int32) (s_p1_near : Nat → Int64) (s_p1_sets : Nat → Int64) (s_p1_through : Nat → Int64) (Q : (Int32) → (Int32) → (Int32) → (Int32) → (Nat → Int32) → (Nat → Int64) → (Nat → Int64) → Prop) : Prop := vRv E cX2_match (fun (u : (Int32) × (Int32) × (Int32) × (Int32) × (Nat → Int32) × (Nat → Int64) × (Nat → Int64)) => Q u.1 u.2.1 u.2.2.1 u.2.2.2.1 u.2.2.2.2.1 u.2.2.2.2.2.1 u.2.2.2.2.2.2) (fun (u : (Int32) × (Int32) × (Int32) × (Int32) × (Nat → Int32) × (Nat → Int64) × (Nat → Int64)) => (cl_X2_match_a T o_p0 a_p0 o_p1 a_p1 u.1 u.2.1 u.2.2.1 u.2.2.2.1 u.2.2.2.2.1 u.2.2.2.2.2.1 u.2.2.2.2.2.2 s_p1_there s_p1_kind s_p1_tag s_p1_size s_p1_lineCount s_p1_near s_p1_sets s_p1_through))
set_option maxHeartbeats 4000000 in
set_option maxRecDepth 100000 in
theorem k_X2_match_133_a {E : vE} {T : Nat → ClassId} {o_p0 : Nat} {a_p0 : Nat → Nat} {o_p1 : Nat} {a_p1 : Nat → Nat} {s_p0_depth : Int32} {s_p0_tryCount : Int32} {s_p0_isSpent : Int32} {s_p0_isFound : Int32} {s_p0_images : Nat → Int32} {s_p0_left : Nat → Int64} {s_p0_used : Nat → Int64} {s_p1_there : Int32} {s_p1_kind : Int32} {s_p1_tag : Int32} {s_p1_size : Int32} {s_p1_lineCount : Int32} {s_p1_near : Nat → Int64} {s_p1_sets : Nat → Int64} {s_p1_through : Nat → Int64} {Q : (Int32) → (Int32) → (Int32) → (Int32) → (Nat → Int32) → (Nat → Int64) → (Nat → Int64) → Prop} (X : vX E cX2_match 5 RX2 wsX2_match (vT T) (vr 5 123)) (r : r_X2_match_a E T o_p0 a_p0 o_p1 a_p1 s_p1_there s_p1_kind s_p1_tag s_p1_size s_p1_lineCount s_p1_near s_p1_sets s_p1_through Q) (h : w_X2_match_133 s_p0_depth s_p0_tryCount s_p0_isSpent s_p0_isFound s_p0_images s_p0_left s_p0_used s_p1_size s_p1_lineCount s_p1_near s_p1_sets s_p1_through s_p1_size s_p1_lineCount s_p1_near s_p1_sets s_p1_through Q) : V E 0 0 133 [] [] (cl_X2_match_a T o_p0 a_p0 o_p1 a_p1 s_p0_depth s_p0_tryCount s_p0_isSpent s_p0_isFound s_p0_images s_p0_left s_p0_used s_p1_there s_p1_kind s_p1_tag s_p1_size s_p1_lineCount s_p1_near s_p1_sets s_p1_through) := by
  unfold w_X2_match_133 at h
  exact r _ _ (s_p0_depth, s_p0_tryCount, s_p0_isSpent, s_p0_isFound, s_p0_images, s_p0_left, s_p0_used) _ dX2_match_133 h rfl
set_option maxHeartbeats 4000000 in
set_option maxRecDepth 100000 in
theorem k_X2_match_127_a {E : vE} {T : Nat → ClassId} {o_p0 : Nat} {a_p0 : Nat → Nat} {o_p1 : Nat} {a_p1 : Nat → Nat} {s_p0_depth : Int32} {s_p0_tryCount : Int32} {s_p0_isSpent : Int32} {s_p0_isFound : Int32} {s_p0_images : Nat → Int32} {s_p0_left : Nat → Int64} {s_p0_used : Nat → Int64} {s_p1_there : Int32} {s_p1_kind : Int32} {s_p1_tag : Int32} {s_p1_size : Int32} {s_p1_lineCount : Int32} {s_p1_near : Nat → Int64} {s_p1_sets : Nat → Int64} {s_p1_through : Nat → Int64} {x_3 : Int32} {x_4 : Int32} {K_59 : (Int32) → (Int32) → (Int32) → (Int32) → (Nat → Int32) → (Nat → Int64) → (Nat → Int64) → Prop} {Q : (Int32) → (Int32) → (Int32) → (Int32) → (Nat → Int32) → (Nat → Int64) → (Nat → Int64) → Prop} (X : vX E cX2_match 5 RX2 wsX2_match (vT T) (vr 5 123)) (r : r_X2_match_a E T o_p0 a_p0 o_p1 a_p1 s_p1_there s_p1_kind s_p1_tag s_p1_size s_p1_lineCount s_p1_near s_p1_sets s_p1_through Q) (hK_59 : ∀ (x_4' : Int32) (s_p0_depth' : Int32) (s_p0_tryCount' : Int32) (s_p0_isFound' : Int32) (s_p0_images' : Nat → Int32) (s_p0_left' : Nat → Int64) (s_p0_used' : Nat → Int64), K_59 x_4' s_p0_depth' s_p0_tryCount' s_p0_isFound' s_p0_images' s_p0_left' s_p0_used' → V E 0 0 59 [(0, .ref o_p0), (1, .ref o_p1), (2, .ref o_p1), (3, .int x_3), (4, .int x_4')] [] (cl_X2_match_a T o_p0 a_p0 o_p1 a_p1 s_p0_depth' s_p0_tryCount' s_p0_isSpent s_p0_isFound' s_p0_images' s_p0_left' s_p0_used' s_p1_there s_p1_kind s_p1_tag s_p1_size s_p1_lineCount s_p1_near s_p1_sets s_p1_through)) (h : w_X2_match_127 x_3 x_4 s_p0_depth s_p0_tryCount s_p0_isSpent s_p0_isFound s_p0_images s_p0_left s_p0_used s_p1_size s_p1_lineCount s_p1_near s_p1_sets s_p1_through s_p1_size s_p1_lineCount s_p1_near s_p1_sets s_p1_through K_59 Q) : V E 0 0 127 [(0, .ref o_p0), (1, .ref o_p1), (2, .ref o_p1), (3, .int x_3), (4, .int x_4)] [] (cl_X2_match_a T o_p0 a_p0 o_p1 a_p1 s_p0_depth s_p0_tryCount s_p0_isSpent s_p0_isFound s_p0_images s_p0_left s_p0_used s_p1_there s_p1_kind s_p1_tag s_p1_size s_p1_lineCount s_p1_near s_p1_sets s_p1_through) := by
  unfold w_X2_match_127 at h
  refine v_iinc X (v := (x_4 + (1 : Int32))) (lv' := [(4, .int (x_4 + (1 : Int32))), (0, .ref o_p0), (1, .ref o_p1), (2, .ref o_p1), (3, .int x_3)]) 4 dX2_match_127 rfl rfl (by decide) rfl ?_
  refine v_goto X (tgt := 59) dX2_match_130 (by decide) ?_
  refine v_lv (lv' := [(0, .ref o_p0), (1, .ref o_p1), (2, .ref o_p1), (3, .int x_3), (4, .int (x_4 + (1 : Int32)))]) [1, 2, 3, 4, 0] rfl ?_
  exact hK_59 _ _ _ _ _ _ _ h
set_option maxHeartbeats 4000000 in
set_option maxRecDepth 100000 in
theorem k_X2_match_59_a {E : vE} {T : Nat → ClassId} {o_p0 : Nat} {a_p0 : Nat → Nat} {o_p1 : Nat} {a_p1 : Nat → Nat} {s_p0_isSpent : Int32} {s_p1_there : Int32} {s_p1_kind : Int32} {s_p1_tag : Int32} {s_p1_size : Int32} {s_p1_lineCount : Int32} {s_p1_near : Nat → Int64} {s_p1_sets : Nat → Int64} {s_p1_through : Nat → Int64} {x_3 : Int32} {Q : (Int32) → (Int32) → (Int32) → (Int32) → (Nat → Int32) → (Nat → Int64) → (Nat → Int64) → Prop} (X : vX E cX2_match 5 RX2 wsX2_match (vT T) (vr 5 123)) (r : r_X2_match_a E T o_p0 a_p0 o_p1 a_p1 s_p1_there s_p1_kind s_p1_tag s_p1_size s_p1_lineCount s_p1_near s_p1_sets s_p1_through Q) : ∀ (n_ : Nat) (x_4 : Int32) (s_p0_depth : Int32) (s_p0_tryCount : Int32) (s_p0_isFound : Int32) (s_p0_images : Nat → Int32) (s_p0_left : Nat → Int64) (s_p0_used : Nat → Int64), w_X2_match_59 x_3 s_p0_isSpent s_p1_size s_p1_lineCount s_p1_near s_p1_sets s_p1_through s_p1_size s_p1_lineCount s_p1_near s_p1_sets s_p1_through Q n_ x_4 s_p0_depth s_p0_tryCount s_p0_isFound s_p0_images s_p0_left s_p0_used → V E 0 0 59 [(0, .ref o_p0), (1, .ref o_p1), (2, .ref o_p1), (3, .int x_3), (4, .int x_4)] [] (cl_X2_match_a T o_p0 a_p0 o_p1 a_p1 s_p0_depth s_p0_tryCount s_p0_isSpent s_p0_isFound s_p0_images s_p0_left s_p0_used s_p1_there s_p1_kind s_p1_tag s_p1_size s_p1_lineCount s_p1_near s_p1_sets s_p1_through) := by
  intro n_
  induction n_ with
  | zero => intro x_4 s_p0_depth s_p0_tryCount s_p0_isFound s_p0_images s_p0_left s_p0_used h; exact h.elim
  | succ n_ hK_59 =>
    intro x_4 s_p0_depth s_p0_tryCount s_p0_isFound s_p0_images s_p0_left s_p0_used h
    replace h : w_X2_match_59s x_3 s_p0_isSpent s_p1_size s_p1_lineCount s_p1_near s_p1_sets s_p1_through s_p1_size s_p1_lineCount s_p1_near s_p1_sets s_p1_through Q (w_X2_match_59 x_3 s_p0_isSpent s_p1_size s_p1_lineCount s_p1_near s_p1_sets s_p1_through s_p1_size s_p1_lineCount s_p1_near s_p1_sets s_p1_through Q n_) x_4 s_p0_depth s_p0_tryCount s_p0_isFound s_p0_images s_p0_left s_p0_used := h
    unfold w_X2_match_59s at h
    refine v_iload X 4 dX2_match_59 rfl ?_
    refine v_ldc X (v := (1000000 : Int32)) (List.mem_of_getElem? (i := 6) rfl) dX2_match_61 ?_
    refine v_icmp_ge X (tgt := 133) dX2_match_63 (by decide) (fun c_63 => ?_) (fun c_63 => ?_)
    · replace h := h.1 c_63
      refine v_lv (lv' := []) [] rfl ?_
      exact k_X2_match_133_a X r h
    · replace h := h.2 c_63
      refine v_aload_n X 0 dX2_match_66 rfl rfl ?_
      refine v_get X 0 3 (F := TX2) (N := 7) iX2_match_X2 rfl rfl (by decide) (List.mem_of_getElem? (i := 4) rfl) rfl rfl dX2_match_67 ?_
      refine v_if_lt X (tgt := 133) dX2_match_70 (by decide) (fun c_70 => ?_) (fun c_70 => ?_)
      · replace h := h.1 c_70
        refine v_lv (lv' := []) [] rfl ?_
        exact k_X2_match_133_a X r h
      · replace h := h.2 c_70
        refine v_aload_n X 0 dX2_match_73 rfl rfl ?_
        refine v_get X 0 6 (F := TX2) (N := 7) iX2_match_X2 rfl rfl (by decide) (List.mem_of_getElem? (i := 3) rfl) rfl rfl dX2_match_74 ?_
        refine v_if_ne X (tgt := 133) dX2_match_77 (by decide) (fun c_77 => ?_) (fun c_77 => ?_)
        · replace h := h.1 c_77
          refine v_lv (lv' := []) [] rfl ?_
          exact k_X2_match_133_a X r h
        · replace h := h.2 c_77
          refine v_aload_n X 0 dX2_match_80 rfl rfl ?_
          refine v_get X 0 2 (F := TX2) (N := 7) iX2_match_X2 rfl rfl (by decide) (List.mem_of_getElem? (i := 7) rfl) rfl rfl dX2_match_81 ?_
          refine v_aload_n X 0 dX2_match_84 rfl rfl ?_
          refine v_get X 0 3 (F := TX2) (N := 7) iX2_match_X2 rfl rfl (by decide) (List.mem_of_getElem? (i := 4) rfl) rfl rfl dX2_match_85 ?_
          refine v_lald X 2 1 rfl rfl h.1 dX2_match_88 ?_
          replace h := h.2
          refine v_lconst X dX2_match_89 (v := (0 : Int64)) (by decide) ?_
          refine v_lcmp X dX2_match_90 ?_
          refine v_if_ne X (tgt := 107) dX2_match_91 (by decide) (fun c_91 => ?_) (fun c_91 => ?_)
          · replace h := h.1 c_91
            refine v_aload_n X 0 dX2_match_107 rfl rfl ?_
            refine v_get X 0 4 (F := TX2) (N := 7) iX2_match_X2 rfl rfl (by decide) (List.mem_of_getElem? (i := 1) rfl) rfl rfl dX2_match_108 ?_
            refine v_iload_n X 3 dX2_match_111 rfl rfl ?_
            refine v_icmp_ne X (tgt := 121) dX2_match_112 (by decide) (fun c_112 => ?_) (fun c_112 => ?_)
            · replace h := h.1 c_112
              refine v_aload_n X 0 dX2_match_121 rfl rfl ?_
              refine v_aload_n X 1 dX2_match_122 rfl rfl ?_
              refine v_aload_n X 2 dX2_match_123 rfl rfl ?_
              refine v_callVv X (As := [.ref o_p1, .ref o_p1]) (rest := []) 2 0 (c_X2_take_a (l := vl E) (D := vD E) (T := T) (o_p0 := o_p0) (a_p0 := a_p0) (o_p1 := o_p1) (a_p1 := a_p1) (s_p0_depth := s_p0_depth) (s_p0_tryCount := s_p0_tryCount) (s_p0_isSpent := s_p0_isSpent) (s_p0_isFound := s_p0_isFound) (s_p0_images := s_p0_images) (s_p0_left := s_p0_left) (s_p0_used := s_p0_used) (s_p1_there := s_p1_there) (s_p1_kind := s_p1_kind) (s_p1_tag := s_p1_tag) (s_p1_size := s_p1_size) (s_p1_lineCount := s_p1_lineCount) (s_p1_near := s_p1_near) (s_p1_sets := s_p1_sets) (s_p1_through := s_p1_through) h) gX2_match_X2_take rfl rfl (by decide +kernel) ⟨Nat.zero_le _, Nat.zero_le _⟩ ⟨rfl, rfl, by decide, by decide⟩ (Nat.le_of_ble_eq_true rfl) rfl rfl (wr := []) [0, 1, 2, 3, 4, 5, 6, 7] [] rfl rfl rfl rfl (by decide) rfl dX2_match_124 (fun u h => ?_)
              obtain ⟨u_124_0, u_124_1, u_124_2, u_124_3, u_124_4, u_124_5⟩ := u
              dsimp only at h
              refine v_ws (ws' := (cl_X2_match_a T o_p0 a_p0 o_p1 a_p1 u_124_0 u_124_1 s_p0_isSpent u_124_2 u_124_3 u_124_4 u_124_5 s_p1_there s_p1_kind s_p1_tag s_p1_size s_p1_lineCount s_p1_near s_p1_sets s_p1_through)) [0, 1, 2, 3, 4, 5, 6, 7] rfl rfl ?_
              exact k_X2_match_127_a X r hK_59 h
            · replace h := h.2 c_112
              refine v_aload_n X 0 dX2_match_115 rfl rfl ?_
              refine v_iconst X dX2_match_116 (v := (1 : Int32)) (by decide) ?_
              refine v_put X (ws' := (cl_X2_match_a T o_p0 a_p0 o_p1 a_p1 s_p0_depth s_p0_tryCount (1 : Int32) s_p0_isFound s_p0_images s_p0_left s_p0_used s_p1_there s_p1_kind s_p1_tag s_p1_size s_p1_lineCount s_p1_near s_p1_sets s_p1_through)) 0 5 (F := TX2) (N := 7) iX2_match_X2 rfl tyX2 tyX2_ok nmX2 rfl (by decide) (List.mem_of_getElem? (i := 2) rfl) rfl rfl rfl (by decide) (by decide) (Nat.le_of_ble_eq_true rfl) rfl dX2_match_117 ?_
              exact r _ _ (s_p0_depth, s_p0_tryCount, (1 : Int32), s_p0_isFound, s_p0_images, s_p0_left, s_p0_used) _ dX2_match_120 h rfl
          · replace h := h.2 c_91
            refine v_aload_n X 0 dX2_match_94 rfl rfl ?_
            refine v_dup X dX2_match_95 rfl ?_
            refine v_get X 0 3 (F := TX2) (N := 7) iX2_match_X2 rfl rfl (by decide) (List.mem_of_getElem? (i := 4) rfl) rfl rfl dX2_match_96 ?_
            refine v_iconst X dX2_match_99 (v := (1 : Int32)) (by decide) ?_
            refine v_isub X dX2_match_100 ?_
            refine v_put X (ws' := (cl_X2_match_a T o_p0 a_p0 o_p1 a_p1 (s_p0_depth - (1 : Int32)) s_p0_tryCount s_p0_isSpent s_p0_isFound s_p0_images s_p0_left s_p0_used s_p1_there s_p1_kind s_p1_tag s_p1_size s_p1_lineCount s_p1_near s_p1_sets s_p1_through)) 0 3 (F := TX2) (N := 7) iX2_match_X2 rfl tyX2 tyX2_ok nmX2 rfl (by decide) (List.mem_of_getElem? (i := 4) rfl) rfl rfl rfl rfl rfl (Nat.le_of_ble_eq_true rfl) rfl dX2_match_101 ?_
            refine v_goto X (tgt := 127) dX2_match_104 (by decide) ?_
            exact k_X2_match_127_a X r hK_59 h
set_option maxHeartbeats 4000000 in
set_option maxRecDepth 100000 in
theorem k_X2_match_37_a {E : vE} {T : Nat → ClassId} {o_p0 : Nat} {a_p0 : Nat → Nat} {o_p1 : Nat} {a_p1 : Nat → Nat} {s_p0_depth : Int32} {s_p0_tryCount : Int32} {s_p0_isSpent : Int32} {s_p0_isFound : Int32} {s_p0_images : Nat → Int32} {s_p0_left : Nat → Int64} {s_p0_used : Nat → Int64} {s_p1_there : Int32} {s_p1_kind : Int32} {s_p1_tag : Int32} {s_p1_size : Int32} {s_p1_lineCount : Int32} {s_p1_near : Nat → Int64} {s_p1_sets : Nat → Int64} {s_p1_through : Nat → Int64} {Q : (Int32) → (Int32) → (Int32) → (Int32) → (Nat → Int32) → (Nat → Int64) → (Nat → Int64) → Prop} (X : vX E cX2_match 5 RX2 wsX2_match (vT T) (vr 5 123)) (r : r_X2_match_a E T o_p0 a_p0 o_p1 a_p1 s_p1_there s_p1_kind s_p1_tag s_p1_size s_p1_lineCount s_p1_near s_p1_sets s_p1_through Q) (h : w_X2_match_37 s_p0_depth s_p0_tryCount s_p0_isSpent s_p0_isFound s_p0_images s_p0_left s_p0_used s_p1_size s_p1_lineCount s_p1_near s_p1_sets s_p1_through s_p1_size s_p1_lineCount s_p1_near s_p1_sets s_p1_through Q) : V E 0 0 37 [] [] (cl_X2_match_a T o_p0 a_p0 o_p1 a_p1 s_p0_depth s_p0_tryCount s_p0_isSpent s_p0_isFound s_p0_images s_p0_left s_p0_used s_p1_there s_p1_kind s_p1_tag s_p1_size s_p1_lineCount s_p1_near s_p1_sets s_p1_through) := by
  unfold w_X2_match_37 at h
  exact r _ _ (s_p0_depth, s_p0_tryCount, s_p0_isSpent, s_p0_isFound, s_p0_images, s_p0_left, s_p0_used) _ dX2_match_37 h rfl
set_option maxHeartbeats 4000000 in
set_option maxRecDepth 100000 in
theorem c_X2_match_a {l : Launch} {D : va_G} {T : Nat → ClassId} {o_p0 : Nat} {a_p0 : Nat → Nat} {o_p1 : Nat} {a_p1 : Nat → Nat} {s_p0_depth : Int32} {s_p0_tryCount : Int32} {s_p0_isSpent : Int32} {s_p0_isFound : Int32} {s_p0_images : Nat → Int32} {s_p0_left : Nat → Int64} {s_p0_used : Nat → Int64} {s_p1_there : Int32} {s_p1_kind : Int32} {s_p1_tag : Int32} {s_p1_size : Int32} {s_p1_lineCount : Int32} {s_p1_near : Nat → Int64} {s_p1_sets : Nat → Int64} {s_p1_through : Nat → Int64} {x_3 : Int32} {Q : (Int32) → (Int32) → (Int32) → (Int32) → (Nat → Int32) → (Nat → Int64) → (Nat → Int64) → Prop} (h : w_X2_match x_3 s_p0_depth s_p0_tryCount s_p0_isSpent s_p0_isFound s_p0_images s_p0_left s_p0_used s_p1_size s_p1_lineCount s_p1_near s_p1_sets s_p1_through s_p1_size s_p1_lineCount s_p1_near s_p1_sets s_p1_through Q) : vCv l D (vT T) yX2_match wsX2_match (vr 5 123) [.ref o_p0, .ref o_p1, .ref o_p1, .int x_3] (cl_X2_match_a T o_p0 a_p0 o_p1 a_p1 s_p0_depth s_p0_tryCount s_p0_isSpent s_p0_isFound s_p0_images s_p0_left s_p0_used s_p1_there s_p1_kind s_p1_tag s_p1_size s_p1_lineCount s_p1_near s_p1_sets s_p1_through) (fun (u : (Int32) × (Int32) × (Int32) × (Int32) × (Nat → Int32) × (Nat → Int64) × (Nat → Int64)) => Q u.1 u.2.1 u.2.2.1 u.2.2.2.1 u.2.2.2.2.1 u.2.2.2.2.2.1 u.2.2.2.2.2.2) (fun (u : (Int32) × (Int32) × (Int32) × (Int32) × (Nat → Int32) × (Nat → Int64) × (Nat → Int64)) => (cl_X2_match_a T o_p0 a_p0 o_p1 a_p1 u.1 u.2.1 u.2.2.1 u.2.2.2.1 u.2.2.2.2.1 u.2.2.2.2.2.1 u.2.2.2.2.2.2 s_p1_there s_p1_kind s_p1_tag s_p1_size s_p1_lineCount s_p1_near s_p1_sets s_p1_through)) := by
  refine vC_v (cc := cX2_match) (nL := 5) (by decide +kernel) rfl ⟨rfl, rfl⟩ (Nat.le_of_ble_eq_true rfl) rfl ?_
  intro E el eD X r
  unfold w_X2_match at h
  refine v_aload_n X 0 dX2_match_0 rfl rfl ?_
  refine v_iconst X dX2_match_1 (v := (0 : Int32)) (by decide) ?_
  refine v_put X (ws' := (cl_X2_match_a T o_p0 a_p0 o_p1 a_p1 s_p0_depth (0 : Int32) s_p0_isSpent s_p0_isFound s_p0_images s_p0_left s_p0_used s_p1_there s_p1_kind s_p1_tag s_p1_size s_p1_lineCount s_p1_near s_p1_sets s_p1_through)) 0 4 (F := TX2) (N := 7) iX2_match_X2 rfl tyX2 tyX2_ok nmX2 rfl (by decide) (List.mem_of_getElem? (i := 1) rfl) rfl rfl rfl rfl rfl (Nat.le_of_ble_eq_true rfl) rfl dX2_match_2 ?_
  refine v_aload_n X 0 dX2_match_5 rfl rfl ?_
  refine v_iconst X dX2_match_6 (v := (0 : Int32)) (by decide) ?_
  refine v_put X (ws' := (cl_X2_match_a T o_p0 a_p0 o_p1 a_p1 s_p0_depth (0 : Int32) (0 : Int32) s_p0_isFound s_p0_images s_p0_left s_p0_used s_p1_there s_p1_kind s_p1_tag s_p1_size s_p1_lineCount s_p1_near s_p1_sets s_p1_through)) 0 5 (F := TX2) (N := 7) iX2_match_X2 rfl tyX2 tyX2_ok nmX2 rfl (by decide) (List.mem_of_getElem? (i := 2) rfl) rfl rfl rfl (by decide) (by decide) (Nat.le_of_ble_eq_true rfl) rfl dX2_match_7 ?_
  refine v_aload_n X 0 dX2_match_10 rfl rfl ?_
  refine v_iconst X dX2_match_11 (v := (0 : Int32)) (by decide) ?_
  refine v_put X (ws' := (cl_X2_match_a T o_p0 a_p0 o_p1 a_p1 s_p0_depth (0 : Int32) (0 : Int32) (0 : Int32) s_p0_images s_p0_left s_p0_used s_p1_there s_p1_kind s_p1_tag s_p1_size s_p1_lineCount s_p1_near s_p1_sets s_p1_through)) 0 6 (F := TX2) (N := 7) iX2_match_X2 rfl tyX2 tyX2_ok nmX2 rfl (by decide) (List.mem_of_getElem? (i := 3) rfl) rfl rfl rfl (by decide) (by decide) (Nat.le_of_ble_eq_true rfl) rfl dX2_match_12 ?_
  refine v_aload_n X 1 dX2_match_15 rfl rfl ?_
  refine v_getN X 4 6 (F := TX5) (N := 8) iX2_match_X5 rfl rfl (by decide) (List.mem_of_getElem? (i := 27) rfl) rfl rfl dX2_match_16 ?_
  refine v_aload_n X 2 dX2_match_19 rfl rfl ?_
  refine v_getN X 4 6 (F := TX5) (N := 8) iX2_match_X5 rfl rfl (by decide) (List.mem_of_getElem? (i := 27) rfl) rfl rfl dX2_match_20 ?_
  refine v_icmp_ne X (tgt := 37) dX2_match_23 (by decide) (fun c_23 => ?_) (fun c_23 => ?_)
  · replace h := h.1 c_23
    refine v_lv (lv' := []) [] rfl ?_
    exact k_X2_match_37_a X r h
  · replace h := h.2 c_23
    refine v_aload_n X 1 dX2_match_26 rfl rfl ?_
    refine v_getN X 4 7 (F := TX5) (N := 8) iX2_match_X5 rfl rfl (by decide) (List.mem_of_getElem? (i := 32) rfl) rfl rfl dX2_match_27 ?_
    refine v_aload_n X 2 dX2_match_30 rfl rfl ?_
    refine v_getN X 4 7 (F := TX5) (N := 8) iX2_match_X5 rfl rfl (by decide) (List.mem_of_getElem? (i := 32) rfl) rfl rfl dX2_match_31 ?_
    refine v_icmp_eq X (tgt := 38) dX2_match_34 (by decide) (fun c_34 => ?_) (fun c_34 => ?_)
    · replace h := h.1 c_34
      refine v_aload_n X 0 dX2_match_38 rfl rfl ?_
      refine v_iconst X dX2_match_39 (v := (0 : Int32)) (by decide) ?_
      refine v_put X (ws' := (cl_X2_match_a T o_p0 a_p0 o_p1 a_p1 (0 : Int32) (0 : Int32) (0 : Int32) (0 : Int32) s_p0_images s_p0_left s_p0_used s_p1_there s_p1_kind s_p1_tag s_p1_size s_p1_lineCount s_p1_near s_p1_sets s_p1_through)) 0 3 (F := TX2) (N := 7) iX2_match_X2 rfl tyX2 tyX2_ok nmX2 rfl (by decide) (List.mem_of_getElem? (i := 4) rfl) rfl rfl rfl rfl rfl (Nat.le_of_ble_eq_true rfl) rfl dX2_match_40 ?_
      refine v_aload_n X 0 dX2_match_43 rfl rfl ?_
      refine v_get X 0 1 (F := TX2) (N := 7) iX2_match_X2 rfl rfl (by decide) (List.mem_of_getElem? (i := 5) rfl) rfl rfl dX2_match_44 ?_
      refine v_iconst X dX2_match_47 (v := (0 : Int32)) (by decide) ?_
      refine v_lconst X dX2_match_48 (v := (0 : Int64)) (by decide) ?_
      refine v_last X (ws' := (cl_X2_match_a T o_p0 a_p0 o_p1 a_p1 (0 : Int32) (0 : Int32) (0 : Int32) (0 : Int32) s_p0_images s_p0_left (vp_updL s_p0_used ((0 : Int32)).toNatClampNeg (0 : Int64)) s_p1_there s_p1_kind s_p1_tag s_p1_size s_p1_lineCount s_p1_near s_p1_sets s_p1_through)) 3 1 rfl rfl h.1 rfl dX2_match_49 ?_
      replace h := h.2
      refine v_aload_n X 0 dX2_match_50 rfl rfl ?_
      refine v_aload_n X 1 dX2_match_51 rfl rfl ?_
      refine v_aload_n X 2 dX2_match_52 rfl rfl ?_
      refine v_callVv X (As := [.ref o_p1, .ref o_p1]) (rest := []) 2 0 (c_X2_open_a (l := vl E) (D := vD E) (T := T) (o_p0 := o_p0) (a_p0 := a_p0) (o_p1 := o_p1) (a_p1 := a_p1) (s_p0_depth := (0 : Int32)) (s_p0_tryCount := (0 : Int32)) (s_p0_isSpent := (0 : Int32)) (s_p0_isFound := (0 : Int32)) (s_p0_images := s_p0_images) (s_p0_left := s_p0_left) (s_p0_used := (vp_updL s_p0_used ((0 : Int32)).toNatClampNeg (0 : Int64))) (s_p1_there := s_p1_there) (s_p1_kind := s_p1_kind) (s_p1_tag := s_p1_tag) (s_p1_size := s_p1_size) (s_p1_lineCount := s_p1_lineCount) (s_p1_near := s_p1_near) (s_p1_sets := s_p1_sets) (s_p1_through := s_p1_through) h) gX2_match_X2_open rfl rfl (by decide +kernel) ⟨Nat.zero_le _, Nat.zero_le _⟩ ⟨rfl, rfl, by decide, by decide⟩ (Nat.le_of_ble_eq_true rfl) rfl rfl (wr := []) [0, 1, 2, 3, 4, 5, 6, 7] [] rfl rfl rfl rfl (by decide) rfl dX2_match_53 (fun u h => ?_)
      obtain ⟨u_53_0, u_53_1⟩ := u
      dsimp only at h
      refine v_ws (ws' := (cl_X2_match_a T o_p0 a_p0 o_p1 a_p1 (0 : Int32) (0 : Int32) (0 : Int32) u_53_0 s_p0_images u_53_1 (vp_updL s_p0_used ((0 : Int32)).toNatClampNeg (0 : Int64)) s_p1_there s_p1_kind s_p1_tag s_p1_size s_p1_lineCount s_p1_near s_p1_sets s_p1_through)) [0, 1, 2, 3, 4, 5, 6, 7] rfl rfl ?_
      refine v_iconst X dX2_match_56 (v := (0 : Int32)) (by decide) ?_
      refine v_istore X (lv' := [(4, .int (0 : Int32)), (0, .ref o_p0), (1, .ref o_p1), (2, .ref o_p1), (3, .int x_3)]) dX2_match_57 (by decide) rfl ?_
      refine v_lv (lv' := [(0, .ref o_p0), (1, .ref o_p1), (2, .ref o_p1), (3, .int x_3), (4, .int (0 : Int32))]) [1, 2, 3, 4, 0] rfl ?_
      obtain ⟨n_, h⟩ := h
      exact k_X2_match_59_a X r n_ _ _ _ _ _ _ _ h
    · replace h := h.2 c_34
      refine v_lv (lv' := []) [] rfl ?_
      exact k_X2_match_37_a X r h
-- X4_open
abbrev cl_X4_open (T : Nat → ClassId) (o_p0 : Nat) (a_p0 : Nat → Nat) (o_p1 : Nat) (o_p2 : Nat) (s_p0_allMet : Int64) (s_p0_depth : Int32) (s_p0_tryCount : Int32) (s_p0_isSpent : Int32) (s_p0_foundCount : Int32) (s_p0_foundSet : Int64) (s_p0_left : Nat → Int64) (s_p0_met : Nat → Int64) (s_p0_taken : Nat → Int64) (s_p1 : Nat → Int64) (s_p2 : Nat → Int64) : va_W := [vO o_p0 1 [.ref (a_p0 0), .ref (a_p0 1), .ref (a_p0 2), .long s_p0_allMet, .int s_p0_depth, .int s_p0_tryCount, .int s_p0_isSpent, .int s_p0_foundCount, .long s_p0_foundSet], vJ T (a_p0 2) 46 s_p0_left, vJ T (a_p0 0) 46 s_p0_met, vJ T (a_p0 1) 46 s_p0_taken, vJ T o_p1 45 s_p1, vJ T o_p2 45 s_p2]
abbrev r_X4_open (E : vE) (T : Nat → ClassId) (o_p0 : Nat) (a_p0 : Nat → Nat) (o_p1 : Nat) (o_p2 : Nat) (s_p0_allMet : Int64) (s_p0_depth : Int32) (s_p0_tryCount : Int32) (s_p0_isSpent : Int32) (s_p0_met : Nat → Int64) (s_p0_taken : Nat → Int64) (s_p1 : Nat → Int64) (s_p2 : Nat → Int64) (Q : (Int32) → (Int64) → (Nat → Int64) → Prop) : Prop := vRv E cX4_open (fun (u : (Int32) × (Int64) × (Nat → Int64)) => Q u.1 u.2.1 u.2.2) (fun (u : (Int32) × (Int64) × (Nat → Int64)) => (cl_X4_open T o_p0 a_p0 o_p1 o_p2 s_p0_allMet s_p0_depth s_p0_tryCount s_p0_isSpent u.1 u.2.1 u.2.2 s_p0_met s_p0_taken s_p1 s_p2))
def w_X4_open_131 (x_3 : Int32) (x_4 : Int32) (s_p0_allMet : Int64) (s_p0_depth : Int32) (s_p0_foundCount : Int32) (s_p0_foundSet : Int64) (s_p0_left : Nat → Int64) (s_p0_met : Nat → Int64) (s_p0_taken : Nat → Int64) (s_p1 : Nat → Int64) (s_p2 : Nat → Int64) (K_78 : (Int32) → (Nat → Int64) → Prop) (Q : (Int32) → (Int64) → (Nat → Int64) → Prop) : Prop := (K_78 (x_4 + (1 : Int32)) s_p0_left)
def w_X4_open_78s (x_3 : Int32) (s_p0_allMet : Int64) (s_p0_depth : Int32) (s_p0_foundCount : Int32) (s_p0_foundSet : Int64) (s_p0_met : Nat → Int64) (s_p0_taken : Nat → Int64) (s_p1 : Nat → Int64) (s_p2 : Nat → Int64) (Q : (Int32) → (Int64) → (Nat → Int64) → Prop) (K_78 : (Int32) → (Nat → Int64) → Prop) (x_4 : Int32) (s_p0_left : Nat → Int64) : Prop := (((45 : Int32) ≤ x_4 → (Q s_p0_foundCount s_p0_foundSet s_p0_left)) ∧ (¬ (45 : Int32) ≤ x_4 → (vp_in x_3 45 ∧ (w_X6_has (s_p1 (x_3).toNatClampNeg) x_4 (fun (r_90 : Int32) => ((r_90 = 0 → (w_X4_open_131 x_3 x_4 s_p0_allMet s_p0_depth s_p0_foundCount s_p0_foundSet s_p0_left s_p0_met s_p0_taken s_p1 s_p2 K_78 Q)) ∧ (¬ r_90 = 0 → (vp_in x_4 45 ∧ (vp_in s_p0_depth 46 ∧ ((¬ (lg_cmp ((s_p2 (x_4).toNatClampNeg) &&& (s_p0_met (s_p0_depth).toNatClampNeg)) (0 : Int64)) = 0 → (w_X4_open_131 x_3 x_4 s_p0_allMet s_p0_depth s_p0_foundCount s_p0_foundSet s_p0_left s_p0_met s_p0_taken s_p1 s_p2 K_78 Q)) ∧ ((lg_cmp ((s_p2 (x_4).toNatClampNeg) &&& (s_p0_met (s_p0_depth).toNatClampNeg)) (0 : Int64)) = 0 → (vp_in s_p0_depth 46 ∧ (vp_in s_p0_depth 46 ∧ (w_X4_open_131 x_3 x_4 s_p0_allMet s_p0_depth s_p0_foundCount s_p0_foundSet (vp_updL s_p0_left (s_p0_depth).toNatClampNeg ((s_p0_left (s_p0_depth).toNatClampNeg) ||| (vshl (1 : Int64) x_4))) s_p0_met s_p0_taken s_p1 s_p2 K_78 Q))))))))))))))
def w_X4_open_78 (x_3 : Int32) (s_p0_allMet : Int64) (s_p0_depth : Int32) (s_p0_foundCount : Int32) (s_p0_foundSet : Int64) (s_p0_met : Nat → Int64) (s_p0_taken : Nat → Int64) (s_p1 : Nat → Int64) (s_p2 : Nat → Int64) (Q : (Int32) → (Int64) → (Nat → Int64) → Prop) : Nat → (Int32) → (Nat → Int64) → Prop
  | 0 => fun _ _ => False
  | n_ + 1 => w_X4_open_78s x_3 s_p0_allMet s_p0_depth s_p0_foundCount s_p0_foundSet s_p0_met s_p0_taken s_p1 s_p2 Q (w_X4_open_78 x_3 s_p0_allMet s_p0_depth s_p0_foundCount s_p0_foundSet s_p0_met s_p0_taken s_p1 s_p2 Q n_)
def w_X4_open (s_p0_allMet : Int64) (s_p0_depth : Int32) (s_p0_foundCount : Int32) (s_p0_foundSet : Int64) (s_p0_left : Nat → Int64) (s_p0_met : Nat → Int64) (s_p0_taken : Nat → Int64) (s_p1 : Nat → Int64) (s_p2 : Nat → Int64) (Q : (Int32) → (Int64) → (Nat → Int64) → Prop) : Prop := (vp_in s_p0_depth 46 ∧ (vp_in s_p0_depth 46 ∧ ((¬ (lg_cmp (s_p0_met (s_p0_depth).toNatClampNeg) s_p0_allMet) = 0 → (vp_in s_p0_depth 46 ∧ (w_X6_leastOf ((s_p0_met (s_p0_depth).toNatClampNeg) ^^^ (-1 : Int64)) (fun (r_64 : Int32) => ((r_64 < (45 : Int32) → (∃ n_, w_X4_open_78 r_64 s_p0_allMet s_p0_depth s_p0_foundCount s_p0_foundSet s_p0_met s_p0_taken s_p1 s_p2 Q n_ (0 : Int32) (vp_updL s_p0_left (s_p0_depth).toNatClampNeg (0 : Int64)))) ∧ (¬ r_64 < (45 : Int32) → (Q s_p0_foundCount s_p0_foundSet (vp_updL s_p0_left (s_p0_depth).toNatClampNeg (0 : Int64))))))))) ∧ ((lg_cmp (s_p0_met (s_p0_depth).toNatClampNeg) s_p0_allMet) = 0 → (vp_in s_p0_depth 46 ∧ (Q (s_p0_foundCount + (1 : Int32)) (s_p0_taken (s_p0_depth).toNatClampNeg) (vp_updL s_p0_left (s_p0_depth).toNatClampNeg (0 : Int64))))))))
-- X4_open
theorem iX4_open_X4 : ∀ w ∈ wsX40, w ∈ wsX4_open := by decide +kernel
set_option maxHeartbeats 4000000 in
set_option maxRecDepth 100000 in
theorem k_X4_open_131 {E : vE} {T : Nat → ClassId} {o_p0 : Nat} {a_p0 : Nat → Nat} {o_p1 : Nat} {o_p2 : Nat} {s_p0_allMet : Int64} {s_p0_depth : Int32} {s_p0_tryCount : Int32} {s_p0_isSpent : Int32} {s_p0_foundCount : Int32} {s_p0_foundSet : Int64} {s_p0_left : Nat → Int64} {s_p0_met : Nat → Int64} {s_p0_taken : Nat → Int64} {s_p1 : Nat → Int64} {s_p2 : Nat → Int64} {x_3 : Int32} {x_4 : Int32} {K_78 : (Int32) → (Nat → Int64) → Prop} {Q : (Int32) → (Int64) → (Nat → Int64) → Prop} (X : vX E cX4_open 5 RX4 wsX4_open (vT T) (vr 2 42)) (r : r_X4_open E T o_p0 a_p0 o_p1 o_p2 s_p0_allMet s_p0_depth s_p0_tryCount s_p0_isSpent s_p0_met s_p0_taken s_p1 s_p2 Q) (hK_78 : ∀ (x_4' : Int32) (s_p0_left' : Nat → Int64), K_78 x_4' s_p0_left' → V E 0 0 78 [(0, .ref o_p0), (1, .ref o_p1), (2, .ref o_p2), (3, .int x_3), (4, .int x_4')] [] (cl_X4_open T o_p0 a_p0 o_p1 o_p2 s_p0_allMet s_p0_depth s_p0_tryCount s_p0_isSpent s_p0_foundCount s_p0_foundSet s_p0_left' s_p0_met s_p0_taken s_p1 s_p2)) (h : w_X4_open_131 x_3 x_4 s_p0_allMet s_p0_depth s_p0_foundCount s_p0_foundSet s_p0_left s_p0_met s_p0_taken s_p1 s_p2 K_78 Q) : V E 0 0 131 [(0, .ref o_p0), (1, .ref o_p1), (2, .ref o_p2), (3, .int x_3), (4, .int x_4)] [] (cl_X4_open T o_p0 a_p0 o_p1 o_p2 s_p0_allMet s_p0_depth s_p0_tryCount s_p0_isSpent s_p0_foundCount s_p0_foundSet s_p0_left s_p0_met s_p0_taken s_p1 s_p2) := by
  unfold w_X4_open_131 at h
  refine v_iinc X (v := (x_4 + (1 : Int32))) (lv' := [(4, .int (x_4 + (1 : Int32))), (0, .ref o_p0), (1, .ref o_p1), (2, .ref o_p2), (3, .int x_3)]) 4 dX4_open_131 rfl rfl (by decide) rfl ?_
  refine v_goto X (tgt := 78) dX4_open_134 (by decide) ?_
  refine v_lv (lv' := [(0, .ref o_p0), (1, .ref o_p1), (2, .ref o_p2), (3, .int x_3), (4, .int (x_4 + (1 : Int32)))]) [1, 2, 3, 4, 0] rfl ?_
  exact hK_78 _ _ h
set_option maxHeartbeats 4000000 in
set_option maxRecDepth 100000 in
theorem k_X4_open_78 {E : vE} {T : Nat → ClassId} {o_p0 : Nat} {a_p0 : Nat → Nat} {o_p1 : Nat} {o_p2 : Nat} {s_p0_allMet : Int64} {s_p0_depth : Int32} {s_p0_tryCount : Int32} {s_p0_isSpent : Int32} {s_p0_foundCount : Int32} {s_p0_foundSet : Int64} {s_p0_met : Nat → Int64} {s_p0_taken : Nat → Int64} {s_p1 : Nat → Int64} {s_p2 : Nat → Int64} {x_3 : Int32} {Q : (Int32) → (Int64) → (Nat → Int64) → Prop} (X : vX E cX4_open 5 RX4 wsX4_open (vT T) (vr 2 42)) (r : r_X4_open E T o_p0 a_p0 o_p1 o_p2 s_p0_allMet s_p0_depth s_p0_tryCount s_p0_isSpent s_p0_met s_p0_taken s_p1 s_p2 Q) : ∀ (n_ : Nat) (x_4 : Int32) (s_p0_left : Nat → Int64), w_X4_open_78 x_3 s_p0_allMet s_p0_depth s_p0_foundCount s_p0_foundSet s_p0_met s_p0_taken s_p1 s_p2 Q n_ x_4 s_p0_left → V E 0 0 78 [(0, .ref o_p0), (1, .ref o_p1), (2, .ref o_p2), (3, .int x_3), (4, .int x_4)] [] (cl_X4_open T o_p0 a_p0 o_p1 o_p2 s_p0_allMet s_p0_depth s_p0_tryCount s_p0_isSpent s_p0_foundCount s_p0_foundSet s_p0_left s_p0_met s_p0_taken s_p1 s_p2) := by
  intro n_
  induction n_ with
  | zero => intro x_4 s_p0_left h; exact h.elim
  | succ n_ hK_78 =>
    intro x_4 s_p0_left h
    replace h : w_X4_open_78s x_3 s_p0_allMet s_p0_depth s_p0_foundCount s_p0_foundSet s_p0_met s_p0_taken s_p1 s_p2 Q (w_X4_open_78 x_3 s_p0_allMet s_p0_depth s_p0_foundCount s_p0_foundSet s_p0_met s_p0_taken s_p1 s_p2 Q n_) x_4 s_p0_left := h
    unfold w_X4_open_78s at h
    refine v_iload X 4 dX4_open_78 rfl ?_
    refine v_bipush X dX4_open_80 (v := (45 : Int32)) (by decide) ?_
    refine v_icmp_ge X (tgt := 137) dX4_open_82 (by decide) (fun c_82 => ?_) (fun c_82 => ?_)
    · replace h := h.1 c_82
      exact r _ _ (s_p0_foundCount, s_p0_foundSet, s_p0_left) _ dX4_open_137 h rfl
    · replace h := h.2 c_82
      refine v_aload_n X 1 dX4_open_85 rfl rfl ?_
      refine v_iload_n X 3 dX4_open_86 rfl rfl ?_
      refine v_lald X 4 1 rfl rfl h.1 dX4_open_87 ?_
      replace h := h.2
      refine v_iload X 4 dX4_open_88 rfl ?_
      refine v_callNi0 X (As := [.long (s_p1 (x_3).toNatClampNeg), .int x_4]) (rest := []) 2 (c_X6_has (l := vl E) (D := vD E) (T := T) (x_0 := (s_p1 (x_3).toNatClampNeg)) (x_2 := x_4) h) gX4_open_X6_has_n60 (List.mem_of_getElem? (i := 43) rfl) (List.mem_of_getElem? (i := 10) rfl) (List.mem_of_getElem? (i := 19) rfl) rfl rfl (by decide +kernel) ⟨Nat.zero_le _, Nat.zero_le _⟩ ⟨rfl, rfl, by decide, by decide⟩ (Nat.le_of_ble_eq_true rfl) rfl dX4_open_90 (fun r_90 h => ?_)
      refine v_if_eq X (tgt := 131) dX4_open_93 (by decide) (fun c_93 => ?_) (fun c_93 => ?_)
      · replace h := h.1 c_93
        exact k_X4_open_131 X r hK_78 h
      · replace h := h.2 c_93
        refine v_aload_n X 2 dX4_open_96 rfl rfl ?_
        refine v_iload X 4 dX4_open_97 rfl ?_
        refine v_lald X 5 1 rfl rfl h.1 dX4_open_99 ?_
        replace h := h.2
        refine v_aload_n X 0 dX4_open_100 rfl rfl ?_
        refine v_get X 0 0 (F := TX4) (N := 9) iX4_open_X4 rfl rfl (by decide) (List.mem_of_getElem? (i := 3) rfl) rfl rfl dX4_open_101 ?_
        refine v_aload_n X 0 dX4_open_104 rfl rfl ?_
        refine v_get X 0 4 (F := TX4) (N := 9) iX4_open_X4 rfl rfl (by decide) (List.mem_of_getElem? (i := 2) rfl) rfl rfl dX4_open_105 ?_
        refine v_lald X 2 1 rfl rfl h.1 dX4_open_108 ?_
        replace h := h.2
        refine v_land X dX4_open_109 ?_
        refine v_lconst X dX4_open_110 (v := (0 : Int64)) (by decide) ?_
        refine v_lcmp X dX4_open_111 ?_
        refine v_if_ne X (tgt := 131) dX4_open_112 (by decide) (fun c_112 => ?_) (fun c_112 => ?_)
        · replace h := h.1 c_112
          exact k_X4_open_131 X r hK_78 h
        · replace h := h.2 c_112
          refine v_aload_n X 0 dX4_open_115 rfl rfl ?_
          refine v_get X 0 2 (F := TX4) (N := 9) iX4_open_X4 rfl rfl (by decide) (List.mem_of_getElem? (i := 1) rfl) rfl rfl dX4_open_116 ?_
          refine v_aload_n X 0 dX4_open_119 rfl rfl ?_
          refine v_get X 0 4 (F := TX4) (N := 9) iX4_open_X4 rfl rfl (by decide) (List.mem_of_getElem? (i := 2) rfl) rfl rfl dX4_open_120 ?_
          refine v_dup2_11 X dX4_open_123 rfl rfl ?_
          refine v_lald X 1 1 rfl rfl h.1 dX4_open_124 ?_
          replace h := h.2
          refine v_lconst X dX4_open_125 (v := (1 : Int64)) (by decide) ?_
          refine v_iload X 4 dX4_open_126 rfl ?_
          refine v_lshl X dX4_open_128 ?_
          refine v_lor X dX4_open_129 ?_
          refine v_last X (ws' := (cl_X4_open T o_p0 a_p0 o_p1 o_p2 s_p0_allMet s_p0_depth s_p0_tryCount s_p0_isSpent s_p0_foundCount s_p0_foundSet (vp_updL s_p0_left (s_p0_depth).toNatClampNeg ((s_p0_left (s_p0_depth).toNatClampNeg) ||| (vshl (1 : Int64) x_4))) s_p0_met s_p0_taken s_p1 s_p2)) 1 1 rfl rfl h.1 rfl dX4_open_130 ?_
          replace h := h.2
          exact k_X4_open_131 X r hK_78 h
set_option maxHeartbeats 4000000 in
set_option maxRecDepth 100000 in
theorem c_X4_open {l : Launch} {D : va_G} {T : Nat → ClassId} {o_p0 : Nat} {a_p0 : Nat → Nat} {o_p1 : Nat} {o_p2 : Nat} {s_p0_allMet : Int64} {s_p0_depth : Int32} {s_p0_tryCount : Int32} {s_p0_isSpent : Int32} {s_p0_foundCount : Int32} {s_p0_foundSet : Int64} {s_p0_left : Nat → Int64} {s_p0_met : Nat → Int64} {s_p0_taken : Nat → Int64} {s_p1 : Nat → Int64} {s_p2 : Nat → Int64} {Q : (Int32) → (Int64) → (Nat → Int64) → Prop} (h : w_X4_open s_p0_allMet s_p0_depth s_p0_foundCount s_p0_foundSet s_p0_left s_p0_met s_p0_taken s_p1 s_p2 Q) : vCv l D (vT T) yX4_open wsX4_open (vr 2 42) [.ref o_p0, .ref o_p1, .ref o_p2] (cl_X4_open T o_p0 a_p0 o_p1 o_p2 s_p0_allMet s_p0_depth s_p0_tryCount s_p0_isSpent s_p0_foundCount s_p0_foundSet s_p0_left s_p0_met s_p0_taken s_p1 s_p2) (fun (u : (Int32) × (Int64) × (Nat → Int64)) => Q u.1 u.2.1 u.2.2) (fun (u : (Int32) × (Int64) × (Nat → Int64)) => (cl_X4_open T o_p0 a_p0 o_p1 o_p2 s_p0_allMet s_p0_depth s_p0_tryCount s_p0_isSpent u.1 u.2.1 u.2.2 s_p0_met s_p0_taken s_p1 s_p2)) := by
  refine vC_v (cc := cX4_open) (nL := 5) (by decide +kernel) rfl ⟨rfl, rfl⟩ (Nat.le_of_ble_eq_true rfl) rfl ?_
  intro E el eD X r
  unfold w_X4_open at h
  refine v_aload_n X 0 dX4_open_0 rfl rfl ?_
  refine v_get X 0 2 (F := TX4) (N := 9) iX4_open_X4 rfl rfl (by decide) (List.mem_of_getElem? (i := 1) rfl) rfl rfl dX4_open_1 ?_
  refine v_aload_n X 0 dX4_open_4 rfl rfl ?_
  refine v_get X 0 4 (F := TX4) (N := 9) iX4_open_X4 rfl rfl (by decide) (List.mem_of_getElem? (i := 2) rfl) rfl rfl dX4_open_5 ?_
  refine v_lconst X dX4_open_8 (v := (0 : Int64)) (by decide) ?_
  refine v_last X (ws' := (cl_X4_open T o_p0 a_p0 o_p1 o_p2 s_p0_allMet s_p0_depth s_p0_tryCount s_p0_isSpent s_p0_foundCount s_p0_foundSet (vp_updL s_p0_left (s_p0_depth).toNatClampNeg (0 : Int64)) s_p0_met s_p0_taken s_p1 s_p2)) 1 1 rfl rfl h.1 rfl dX4_open_9 ?_
  replace h := h.2
  refine v_aload_n X 0 dX4_open_10 rfl rfl ?_
  refine v_get X 0 0 (F := TX4) (N := 9) iX4_open_X4 rfl rfl (by decide) (List.mem_of_getElem? (i := 3) rfl) rfl rfl dX4_open_11 ?_
  refine v_aload_n X 0 dX4_open_14 rfl rfl ?_
  refine v_get X 0 4 (F := TX4) (N := 9) iX4_open_X4 rfl rfl (by decide) (List.mem_of_getElem? (i := 2) rfl) rfl rfl dX4_open_15 ?_
  refine v_lald X 2 1 rfl rfl h.1 dX4_open_18 ?_
  replace h := h.2
  refine v_aload_n X 0 dX4_open_19 rfl rfl ?_
  refine v_get X 0 3 (F := TX4) (N := 9) iX4_open_X4 rfl rfl (by decide) (List.mem_of_getElem? (i := 4) rfl) rfl rfl dX4_open_20 ?_
  refine v_lcmp X dX4_open_23 ?_
  refine v_if_ne X (tgt := 51) dX4_open_24 (by decide) (fun c_24 => ?_) (fun c_24 => ?_)
  · replace h := h.1 c_24
    refine v_aload_n X 0 dX4_open_51 rfl rfl ?_
    refine v_get X 0 0 (F := TX4) (N := 9) iX4_open_X4 rfl rfl (by decide) (List.mem_of_getElem? (i := 3) rfl) rfl rfl dX4_open_52 ?_
    refine v_aload_n X 0 dX4_open_55 rfl rfl ?_
    refine v_get X 0 4 (F := TX4) (N := 9) iX4_open_X4 rfl rfl (by decide) (List.mem_of_getElem? (i := 2) rfl) rfl rfl dX4_open_56 ?_
    refine v_lald X 2 1 rfl rfl h.1 dX4_open_59 ?_
    replace h := h.2
    refine v_ldc2 X (v := (-1 : Int64)) (List.mem_of_getElem? (i := 8) rfl) dX4_open_60 ?_
    refine v_lxor X dX4_open_63 ?_
    refine v_callNi0 X (As := [.long ((s_p0_met (s_p0_depth).toNatClampNeg) ^^^ (-1 : Int64))]) (rest := []) 1 (c_X6_leastOf (l := vl E) (D := vD E) (T := T) (x_0 := ((s_p0_met (s_p0_depth).toNatClampNeg) ^^^ (-1 : Int64))) h) gX4_open_X6_leastOf_n51 (List.mem_of_getElem? (i := 42) rfl) (List.mem_of_getElem? (i := 10) rfl) (List.mem_of_getElem? (i := 9) rfl) rfl rfl (by decide +kernel) ⟨Nat.zero_le _, Nat.zero_le _⟩ ⟨rfl, rfl, by decide, by decide⟩ (Nat.le_of_ble_eq_true rfl) rfl dX4_open_64 (fun r_64 h => ?_)
    refine v_istore_n X (lv' := [(3, .int r_64), (0, .ref o_p0), (1, .ref o_p1), (2, .ref o_p2)]) dX4_open_67 rfl (by decide) rfl ?_
    refine v_iload_n X 0 dX4_open_68 rfl rfl ?_
    refine v_bipush X dX4_open_69 (v := (45 : Int32)) (by decide) ?_
    refine v_icmp_lt X (tgt := 75) dX4_open_71 (by decide) (fun c_71 => ?_) (fun c_71 => ?_)
    · replace h := h.1 c_71
      refine v_iconst X dX4_open_75 (v := (0 : Int32)) (by decide) ?_
      refine v_istore X (lv' := [(4, .int (0 : Int32)), (3, .int r_64), (0, .ref o_p0), (1, .ref o_p1), (2, .ref o_p2)]) dX4_open_76 (by decide) rfl ?_
      refine v_lv (lv' := [(0, .ref o_p0), (1, .ref o_p1), (2, .ref o_p2), (3, .int r_64), (4, .int (0 : Int32))]) [2, 3, 4, 1, 0] rfl ?_
      obtain ⟨n_, h⟩ := h
      exact k_X4_open_78 X r n_ _ _ h
    · replace h := h.2 c_71
      exact r _ _ (s_p0_foundCount, s_p0_foundSet, (vp_updL s_p0_left (s_p0_depth).toNatClampNeg (0 : Int64))) _ dX4_open_74 h rfl
  · replace h := h.2 c_24
    refine v_aload_n X 0 dX4_open_27 rfl rfl ?_
    refine v_dup X dX4_open_28 rfl ?_
    refine v_get X 0 7 (F := TX4) (N := 9) iX4_open_X4 rfl rfl (by decide) (List.mem_of_getElem? (i := 5) rfl) rfl rfl dX4_open_29 ?_
    refine v_iconst X dX4_open_32 (v := (1 : Int32)) (by decide) ?_
    refine v_iadd X dX4_open_33 ?_
    refine v_put X (ws' := (cl_X4_open T o_p0 a_p0 o_p1 o_p2 s_p0_allMet s_p0_depth s_p0_tryCount s_p0_isSpent (s_p0_foundCount + (1 : Int32)) s_p0_foundSet (vp_updL s_p0_left (s_p0_depth).toNatClampNeg (0 : Int64)) s_p0_met s_p0_taken s_p1 s_p2)) 0 7 (F := TX4) (N := 9) iX4_open_X4 rfl tyX4 tyX4_ok nmX4 rfl (by decide) (List.mem_of_getElem? (i := 5) rfl) rfl rfl rfl rfl rfl (Nat.le_of_ble_eq_true rfl) rfl dX4_open_34 ?_
    refine v_aload_n X 0 dX4_open_37 rfl rfl ?_
    refine v_aload_n X 0 dX4_open_38 rfl rfl ?_
    refine v_get X 0 1 (F := TX4) (N := 9) iX4_open_X4 rfl rfl (by decide) (List.mem_of_getElem? (i := 6) rfl) rfl rfl dX4_open_39 ?_
    refine v_aload_n X 0 dX4_open_42 rfl rfl ?_
    refine v_get X 0 4 (F := TX4) (N := 9) iX4_open_X4 rfl rfl (by decide) (List.mem_of_getElem? (i := 2) rfl) rfl rfl dX4_open_43 ?_
    refine v_lald X 3 1 rfl rfl h.1 dX4_open_46 ?_
    replace h := h.2
    refine v_put X (ws' := (cl_X4_open T o_p0 a_p0 o_p1 o_p2 s_p0_allMet s_p0_depth s_p0_tryCount s_p0_isSpent (s_p0_foundCount + (1 : Int32)) (s_p0_taken (s_p0_depth).toNatClampNeg) (vp_updL s_p0_left (s_p0_depth).toNatClampNeg (0 : Int64)) s_p0_met s_p0_taken s_p1 s_p2)) 0 8 (F := TX4) (N := 9) iX4_open_X4 rfl tyX4 tyX4_ok nmX4 rfl (by decide) (List.mem_of_getElem? (i := 7) rfl) rfl rfl rfl rfl rfl (Nat.le_of_ble_eq_true rfl) rfl dX4_open_47 ?_
    exact r _ _ ((s_p0_foundCount + (1 : Int32)), (s_p0_taken (s_p0_depth).toNatClampNeg), (vp_updL s_p0_left (s_p0_depth).toNatClampNeg (0 : Int64))) _ dX4_open_50 h rfl
-- X4_take
abbrev cl_X4_take (T : Nat → ClassId) (o_p0 : Nat) (a_p0 : Nat → Nat) (o_p1 : Nat) (o_p2 : Nat) (s_p0_allMet : Int64) (s_p0_depth : Int32) (s_p0_tryCount : Int32) (s_p0_isSpent : Int32) (s_p0_foundCount : Int32) (s_p0_foundSet : Int64) (s_p0_left : Nat → Int64) (s_p0_met : Nat → Int64) (s_p0_taken : Nat → Int64) (s_p1 : Nat → Int64) (s_p2 : Nat → Int64) : va_W := [vO o_p0 1 [.ref (a_p0 0), .ref (a_p0 1), .ref (a_p0 2), .long s_p0_allMet, .int s_p0_depth, .int s_p0_tryCount, .int s_p0_isSpent, .int s_p0_foundCount, .long s_p0_foundSet], vJ T (a_p0 2) 46 s_p0_left, vJ T (a_p0 0) 46 s_p0_met, vJ T (a_p0 1) 46 s_p0_taken, vJ T o_p1 45 s_p1, vJ T o_p2 45 s_p2]
abbrev r_X4_take (E : vE) (T : Nat → ClassId) (o_p0 : Nat) (a_p0 : Nat → Nat) (o_p1 : Nat) (o_p2 : Nat) (s_p0_allMet : Int64) (s_p0_isSpent : Int32) (s_p1 : Nat → Int64) (s_p2 : Nat → Int64) (Q : (Int32) → (Int32) → (Int32) → (Int64) → (Nat → Int64) → (Nat → Int64) → (Nat → Int64) → Prop) : Prop := vRv E cX4_take (fun (u : (Int32) × (Int32) × (Int32) × (Int64) × (Nat → Int64) × (Nat → Int64) × (Nat → Int64)) => Q u.1 u.2.1 u.2.2.1 u.2.2.2.1 u.2.2.2.2.1 u.2.2.2.2.2.1 u.2.2.2.2.2.2) (fun (u : (Int32) × (Int32) × (Int32) × (Int64) × (Nat → Int64) × (Nat → Int64) × (Nat → Int64)) => (cl_X4_take T o_p0 a_p0 o_p1 o_p2 s_p0_allMet u.1 u.2.1 s_p0_isSpent u.2.2.1 u.2.2.2.1 u.2.2.2.2.1 u.2.2.2.2.2.1 u.2.2.2.2.2.2 s_p1 s_p2))
def w_X4_take_121 (s_p0_allMet : Int64) (s_p0_depth : Int32) (s_p0_tryCount : Int32) (s_p0_foundCount : Int32) (s_p0_foundSet : Int64) (s_p0_left : Nat → Int64) (s_p0_met : Nat → Int64) (s_p0_taken : Nat → Int64) (s_p1 : Nat → Int64) (s_p2 : Nat → Int64) (Q : (Int32) → (Int32) → (Int32) → (Int64) → (Nat → Int64) → (Nat → Int64) → (Nat → Int64) → Prop) : Prop := (Q s_p0_depth s_p0_tryCount s_p0_foundCount s_p0_foundSet s_p0_left s_p0_met s_p0_taken)
def w_X4_take (s_p0_allMet : Int64) (s_p0_depth : Int32) (s_p0_tryCount : Int32) (s_p0_foundCount : Int32) (s_p0_foundSet : Int64) (s_p0_left : Nat → Int64) (s_p0_met : Nat → Int64) (s_p0_taken : Nat → Int64) (s_p1 : Nat → Int64) (s_p2 : Nat → Int64) (Q : (Int32) → (Int32) → (Int32) → (Int64) → (Nat → Int64) → (Nat → Int64) → (Nat → Int64) → Prop) : Prop := (vp_in s_p0_depth 46 ∧ (w_X6_leastOf (s_p0_left (s_p0_depth).toNatClampNeg) (fun (r_9 : Int32) => (vp_in s_p0_depth 46 ∧ (vp_in s_p0_depth 46 ∧ (((45 : Int32) ≤ r_9 → (w_X4_take_121 s_p0_allMet s_p0_depth (s_p0_tryCount + (1 : Int32)) s_p0_foundCount s_p0_foundSet (vp_updL s_p0_left (s_p0_depth).toNatClampNeg ((s_p0_left (s_p0_depth).toNatClampNeg) &&& ((vshl (1 : Int64) r_9) ^^^ (-1 : Int64)))) s_p0_met s_p0_taken s_p1 s_p2 Q)) ∧ (¬ (45 : Int32) ≤ r_9 → (((45 : Int32) ≤ s_p0_depth → (w_X4_take_121 s_p0_allMet s_p0_depth (s_p0_tryCount + (1 : Int32)) s_p0_foundCount s_p0_foundSet (vp_updL s_p0_left (s_p0_depth).toNatClampNeg ((s_p0_left (s_p0_depth).toNatClampNeg) &&& ((vshl (1 : Int64) r_9) ^^^ (-1 : Int64)))) s_p0_met s_p0_taken s_p1 s_p2 Q)) ∧ (¬ (45 : Int32) ≤ s_p0_depth → (vp_in s_p0_depth 46 ∧ (vp_in r_9 45 ∧ (vp_in (s_p0_depth + (1 : Int32)) 46 ∧ (vp_in s_p0_depth 46 ∧ (vp_in (s_p0_depth + (1 : Int32)) 46 ∧ (w_X4_open s_p0_allMet (s_p0_depth + (1 : Int32)) s_p0_foundCount s_p0_foundSet (vp_updL s_p0_left (s_p0_depth).toNatClampNeg ((s_p0_left (s_p0_depth).toNatClampNeg) &&& ((vshl (1 : Int64) r_9) ^^^ (-1 : Int64)))) (vp_updL s_p0_met ((s_p0_depth + (1 : Int32))).toNatClampNeg ((s_p0_met (s_p0_depth).toNatClampNeg) ||| (s_p2 (r_9).toNatClampNeg))) (vp_updL s_p0_taken ((s_p0_depth + (1 : Int32))).toNatClampNeg ((s_p0_taken (s_p0_depth).toNatClampNeg) ||| (vshl (1 : Int64) r_9))) s_p1 s_p2 (fun (u_118_0 : Int32) (u_118_1 : Int64) (u_118_2 : Nat → Int64) => (w_X4_take_121 s_p0_allMet (s_p0_depth + (1 : Int32)) (s_p0_tryCount + (1 : Int32)) u_118_0 u_118_1 u_118_2 (vp_updL s_p0_met ((s_p0_depth + (1 : Int32))).toNatClampNeg ((s_p0_met (s_p0_depth).toNatClampNeg) ||| (s_p2 (r_9).toNatClampNeg))) (vp_updL s_p0_taken ((s_p0_depth + (1 : Int32))).toNatClampNeg ((s_p0_taken (s_p0_depth).toNatClampNeg) ||| (vshl (1 : Int64) r_9))) s_p1 s_p2 Q)))))))))))))))))
-- X4_take
theorem iX4_take_X4 : ∀ w ∈ wsX40, w ∈ wsX4_take := by decide +kernel
set_option maxHeartbeats 4000000 in
set_option maxRecDepth 100000 in
theorem k_X4_take_121 {E : vE} {T : Nat → ClassId} {o_p0 : Nat} {a_p0 : Nat → Nat} {o_p1 : Nat} {o_p2 : Nat} {s_p0_allMet : Int64} {s_p0_depth : Int32} {s_p0_tryCount : Int32} {s_p0_isSpent : Int32} {s_p0_foundCount : Int32} {s_p0_foundSet : Int64} {s_p0_left : Nat → Int64} {s_p0_met : Nat → Int64} {s_p0_taken : Nat → Int64} {s_p1 : Nat → Int64} {s_p2 : Nat → Int64} {Q : (Int32) → (Int32) → (Int32) → (Int64) → (Nat → Int64) → (Nat → Int64) → (Nat → Int64) → Prop} (X : vX E cX4_take 4 RX4 wsX4_take (vT T) (vr 3 66)) (r : r_X4_take E T o_p0 a_p0 o_p1 o_p2 s_p0_allMet s_p0_isSpent s_p1 s_p2 Q) (h : w_X4_take_121 s_p0_allMet s_p0_depth s_p0_tryCount s_p0_foundCount s_p0_foundSet s_p0_left s_p0_met s_p0_taken s_p1 s_p2 Q) : V E 0 0 121 [] [] (cl_X4_take T o_p0 a_p0 o_p1 o_p2 s_p0_allMet s_p0_depth s_p0_tryCount s_p0_isSpent s_p0_foundCount s_p0_foundSet s_p0_left s_p0_met s_p0_taken s_p1 s_p2) := by
  unfold w_X4_take_121 at h
  exact r _ _ (s_p0_depth, s_p0_tryCount, s_p0_foundCount, s_p0_foundSet, s_p0_left, s_p0_met, s_p0_taken) _ dX4_take_121 h rfl
set_option maxHeartbeats 4000000 in
set_option maxRecDepth 100000 in
theorem c_X4_take {l : Launch} {D : va_G} {T : Nat → ClassId} {o_p0 : Nat} {a_p0 : Nat → Nat} {o_p1 : Nat} {o_p2 : Nat} {s_p0_allMet : Int64} {s_p0_depth : Int32} {s_p0_tryCount : Int32} {s_p0_isSpent : Int32} {s_p0_foundCount : Int32} {s_p0_foundSet : Int64} {s_p0_left : Nat → Int64} {s_p0_met : Nat → Int64} {s_p0_taken : Nat → Int64} {s_p1 : Nat → Int64} {s_p2 : Nat → Int64} {Q : (Int32) → (Int32) → (Int32) → (Int64) → (Nat → Int64) → (Nat → Int64) → (Nat → Int64) → Prop} (h : w_X4_take s_p0_allMet s_p0_depth s_p0_tryCount s_p0_foundCount s_p0_foundSet s_p0_left s_p0_met s_p0_taken s_p1 s_p2 Q) : vCv l D (vT T) yX4_take wsX4_take (vr 3 66) [.ref o_p0, .ref o_p1, .ref o_p2] (cl_X4_take T o_p0 a_p0 o_p1 o_p2 s_p0_allMet s_p0_depth s_p0_tryCount s_p0_isSpent s_p0_foundCount s_p0_foundSet s_p0_left s_p0_met s_p0_taken s_p1 s_p2) (fun (u : (Int32) × (Int32) × (Int32) × (Int64) × (Nat → Int64) × (Nat → Int64) × (Nat → Int64)) => Q u.1 u.2.1 u.2.2.1 u.2.2.2.1 u.2.2.2.2.1 u.2.2.2.2.2.1 u.2.2.2.2.2.2) (fun (u : (Int32) × (Int32) × (Int32) × (Int64) × (Nat → Int64) × (Nat → Int64) × (Nat → Int64)) => (cl_X4_take T o_p0 a_p0 o_p1 o_p2 s_p0_allMet u.1 u.2.1 s_p0_isSpent u.2.2.1 u.2.2.2.1 u.2.2.2.2.1 u.2.2.2.2.2.1 u.2.2.2.2.2.2 s_p1 s_p2)) := by
  refine vC_v (cc := cX4_take) (nL := 4) (by decide +kernel) rfl ⟨rfl, rfl⟩ (Nat.le_of_ble_eq_true rfl) rfl ?_
  intro E el eD X r
  unfold w_X4_take at h
  refine v_aload_n X 0 dX4_take_0 rfl rfl ?_
  refine v_get X 0 2 (F := TX4) (N := 9) iX4_take_X4 rfl rfl (by decide) (List.mem_of_getElem? (i := 1) rfl) rfl rfl dX4_take_1 ?_
  refine v_aload_n X 0 dX4_take_4 rfl rfl ?_
  refine v_get X 0 4 (F := TX4) (N := 9) iX4_take_X4 rfl rfl (by decide) (List.mem_of_getElem? (i := 2) rfl) rfl rfl dX4_take_5 ?_
  refine v_lald X 1 1 rfl rfl h.1 dX4_take_8 ?_
  replace h := h.2
  refine v_callNi0 X (As := [.long (s_p0_left (s_p0_depth).toNatClampNeg)]) (rest := []) 1 (c_X6_leastOf (l := vl E) (D := vD E) (T := T) (x_0 := (s_p0_left (s_p0_depth).toNatClampNeg)) h) gX4_take_X6_leastOf_n51 (List.mem_of_getElem? (i := 42) rfl) (List.mem_of_getElem? (i := 8) rfl) (List.mem_of_getElem? (i := 7) rfl) rfl rfl (by decide +kernel) ⟨Nat.zero_le _, Nat.zero_le _⟩ ⟨rfl, rfl, by decide, by decide⟩ (Nat.le_of_ble_eq_true rfl) rfl dX4_take_9 (fun r_9 h => ?_)
  refine v_istore_n X (lv' := [(3, .int r_9), (0, .ref o_p0), (1, .ref o_p1), (2, .ref o_p2)]) dX4_take_12 rfl (by decide) rfl ?_
  refine v_aload_n X 1 dX4_take_13 rfl rfl ?_
  refine v_get X 0 2 (F := TX4) (N := 9) iX4_take_X4 rfl rfl (by decide) (List.mem_of_getElem? (i := 1) rfl) rfl rfl dX4_take_14 ?_
  refine v_aload_n X 1 dX4_take_17 rfl rfl ?_
  refine v_get X 0 4 (F := TX4) (N := 9) iX4_take_X4 rfl rfl (by decide) (List.mem_of_getElem? (i := 2) rfl) rfl rfl dX4_take_18 ?_
  refine v_dup2_11 X dX4_take_21 rfl rfl ?_
  refine v_lald X 1 1 rfl rfl h.1 dX4_take_22 ?_
  replace h := h.2
  refine v_lconst X dX4_take_23 (v := (1 : Int64)) (by decide) ?_
  refine v_iload_n X 0 dX4_take_24 rfl rfl ?_
  refine v_lshl X dX4_take_25 ?_
  refine v_ldc2 X (v := (-1 : Int64)) (List.mem_of_getElem? (i := 3) rfl) dX4_take_26 ?_
  refine v_lxor X dX4_take_29 ?_
  refine v_land X dX4_take_30 ?_
  refine v_last X (ws' := (cl_X4_take T o_p0 a_p0 o_p1 o_p2 s_p0_allMet s_p0_depth s_p0_tryCount s_p0_isSpent s_p0_foundCount s_p0_foundSet (vp_updL s_p0_left (s_p0_depth).toNatClampNeg ((s_p0_left (s_p0_depth).toNatClampNeg) &&& ((vshl (1 : Int64) r_9) ^^^ (-1 : Int64)))) s_p0_met s_p0_taken s_p1 s_p2)) 1 1 rfl rfl h.1 rfl dX4_take_31 ?_
  replace h := h.2
  refine v_aload_n X 1 dX4_take_32 rfl rfl ?_
  refine v_dup X dX4_take_33 rfl ?_
  refine v_get X 0 5 (F := TX4) (N := 9) iX4_take_X4 rfl rfl (by decide) (List.mem_of_getElem? (i := 4) rfl) rfl rfl dX4_take_34 ?_
  refine v_iconst X dX4_take_37 (v := (1 : Int32)) (by decide) ?_
  refine v_iadd X dX4_take_38 ?_
  refine v_put X (ws' := (cl_X4_take T o_p0 a_p0 o_p1 o_p2 s_p0_allMet s_p0_depth (s_p0_tryCount + (1 : Int32)) s_p0_isSpent s_p0_foundCount s_p0_foundSet (vp_updL s_p0_left (s_p0_depth).toNatClampNeg ((s_p0_left (s_p0_depth).toNatClampNeg) &&& ((vshl (1 : Int64) r_9) ^^^ (-1 : Int64)))) s_p0_met s_p0_taken s_p1 s_p2)) 0 5 (F := TX4) (N := 9) iX4_take_X4 rfl tyX4 tyX4_ok nmX4 rfl (by decide) (List.mem_of_getElem? (i := 4) rfl) rfl rfl rfl rfl rfl (Nat.le_of_ble_eq_true rfl) rfl dX4_take_39 ?_
  refine v_iload_n X 0 dX4_take_42 rfl rfl ?_
  refine v_bipush X dX4_take_43 (v := (45 : Int32)) (by decide) ?_
  refine v_icmp_ge X (tgt := 121) dX4_take_45 (by decide) (fun c_45 => ?_) (fun c_45 => ?_)
  · replace h := h.1 c_45
    refine v_lv (lv' := []) [] rfl ?_
    exact k_X4_take_121 X r h
  · replace h := h.2 c_45
    refine v_aload_n X 1 dX4_take_48 rfl rfl ?_
    refine v_get X 0 4 (F := TX4) (N := 9) iX4_take_X4 rfl rfl (by decide) (List.mem_of_getElem? (i := 2) rfl) rfl rfl dX4_take_49 ?_
    refine v_bipush X dX4_take_52 (v := (45 : Int32)) (by decide) ?_
    refine v_icmp_ge X (tgt := 121) dX4_take_54 (by decide) (fun c_54 => ?_) (fun c_54 => ?_)
    · replace h := h.1 c_54
      refine v_lv (lv' := []) [] rfl ?_
      exact k_X4_take_121 X r h
    · replace h := h.2 c_54
      refine v_aload_n X 1 dX4_take_57 rfl rfl ?_
      refine v_get X 0 0 (F := TX4) (N := 9) iX4_take_X4 rfl rfl (by decide) (List.mem_of_getElem? (i := 5) rfl) rfl rfl dX4_take_58 ?_
      refine v_aload_n X 1 dX4_take_61 rfl rfl ?_
      refine v_get X 0 4 (F := TX4) (N := 9) iX4_take_X4 rfl rfl (by decide) (List.mem_of_getElem? (i := 2) rfl) rfl rfl dX4_take_62 ?_
      refine v_iconst X dX4_take_65 (v := (1 : Int32)) (by decide) ?_
      refine v_iadd X dX4_take_66 ?_
      refine v_aload_n X 1 dX4_take_67 rfl rfl ?_
      refine v_get X 0 0 (F := TX4) (N := 9) iX4_take_X4 rfl rfl (by decide) (List.mem_of_getElem? (i := 5) rfl) rfl rfl dX4_take_68 ?_
      refine v_aload_n X 1 dX4_take_71 rfl rfl ?_
      refine v_get X 0 4 (F := TX4) (N := 9) iX4_take_X4 rfl rfl (by decide) (List.mem_of_getElem? (i := 2) rfl) rfl rfl dX4_take_72 ?_
      refine v_lald X 2 1 rfl rfl h.1 dX4_take_75 ?_
      replace h := h.2
      refine v_aload_n X 3 dX4_take_76 rfl rfl ?_
      refine v_iload_n X 0 dX4_take_77 rfl rfl ?_
      refine v_lald X 5 1 rfl rfl h.1 dX4_take_78 ?_
      replace h := h.2
      refine v_lor X dX4_take_79 ?_
      refine v_last X (ws' := (cl_X4_take T o_p0 a_p0 o_p1 o_p2 s_p0_allMet s_p0_depth (s_p0_tryCount + (1 : Int32)) s_p0_isSpent s_p0_foundCount s_p0_foundSet (vp_updL s_p0_left (s_p0_depth).toNatClampNeg ((s_p0_left (s_p0_depth).toNatClampNeg) &&& ((vshl (1 : Int64) r_9) ^^^ (-1 : Int64)))) (vp_updL s_p0_met ((s_p0_depth + (1 : Int32))).toNatClampNeg ((s_p0_met (s_p0_depth).toNatClampNeg) ||| (s_p2 (r_9).toNatClampNeg))) s_p0_taken s_p1 s_p2)) 2 1 rfl rfl h.1 rfl dX4_take_80 ?_
      replace h := h.2
      refine v_aload_n X 1 dX4_take_81 rfl rfl ?_
      refine v_get X 0 1 (F := TX4) (N := 9) iX4_take_X4 rfl rfl (by decide) (List.mem_of_getElem? (i := 6) rfl) rfl rfl dX4_take_82 ?_
      refine v_aload_n X 1 dX4_take_85 rfl rfl ?_
      refine v_get X 0 4 (F := TX4) (N := 9) iX4_take_X4 rfl rfl (by decide) (List.mem_of_getElem? (i := 2) rfl) rfl rfl dX4_take_86 ?_
      refine v_iconst X dX4_take_89 (v := (1 : Int32)) (by decide) ?_
      refine v_iadd X dX4_take_90 ?_
      refine v_aload_n X 1 dX4_take_91 rfl rfl ?_
      refine v_get X 0 1 (F := TX4) (N := 9) iX4_take_X4 rfl rfl (by decide) (List.mem_of_getElem? (i := 6) rfl) rfl rfl dX4_take_92 ?_
      refine v_aload_n X 1 dX4_take_95 rfl rfl ?_
      refine v_get X 0 4 (F := TX4) (N := 9) iX4_take_X4 rfl rfl (by decide) (List.mem_of_getElem? (i := 2) rfl) rfl rfl dX4_take_96 ?_
      refine v_lald X 3 1 rfl rfl h.1 dX4_take_99 ?_
      replace h := h.2
      refine v_lconst X dX4_take_100 (v := (1 : Int64)) (by decide) ?_
      refine v_iload_n X 0 dX4_take_101 rfl rfl ?_
      refine v_lshl X dX4_take_102 ?_
      refine v_lor X dX4_take_103 ?_
      refine v_last X (ws' := (cl_X4_take T o_p0 a_p0 o_p1 o_p2 s_p0_allMet s_p0_depth (s_p0_tryCount + (1 : Int32)) s_p0_isSpent s_p0_foundCount s_p0_foundSet (vp_updL s_p0_left (s_p0_depth).toNatClampNeg ((s_p0_left (s_p0_depth).toNatClampNeg) &&& ((vshl (1 : Int64) r_9) ^^^ (-1 : Int64)))) (vp_updL s_p0_met ((s_p0_depth + (1 : Int32))).toNatClampNeg ((s_p0_met (s_p0_depth).toNatClampNeg) ||| (s_p2 (r_9).toNatClampNeg))) (vp_updL s_p0_taken ((s_p0_depth + (1 : Int32))).toNatClampNeg ((s_p0_taken (s_p0_depth).toNatClampNeg) ||| (vshl (1 : Int64) r_9))) s_p1 s_p2)) 3 1 rfl rfl h.1 rfl dX4_take_104 ?_
      replace h := h.2
      refine v_aload_n X 1 dX4_take_105 rfl rfl ?_
      refine v_dup X dX4_take_106 rfl ?_
      refine v_get X 0 4 (F := TX4) (N := 9) iX4_take_X4 rfl rfl (by decide) (List.mem_of_getElem? (i := 2) rfl) rfl rfl dX4_take_107 ?_
      refine v_iconst X dX4_take_110 (v := (1 : Int32)) (by decide) ?_
      refine v_iadd X dX4_take_111 ?_
      refine v_put X (ws' := (cl_X4_take T o_p0 a_p0 o_p1 o_p2 s_p0_allMet (s_p0_depth + (1 : Int32)) (s_p0_tryCount + (1 : Int32)) s_p0_isSpent s_p0_foundCount s_p0_foundSet (vp_updL s_p0_left (s_p0_depth).toNatClampNeg ((s_p0_left (s_p0_depth).toNatClampNeg) &&& ((vshl (1 : Int64) r_9) ^^^ (-1 : Int64)))) (vp_updL s_p0_met ((s_p0_depth + (1 : Int32))).toNatClampNeg ((s_p0_met (s_p0_depth).toNatClampNeg) ||| (s_p2 (r_9).toNatClampNeg))) (vp_updL s_p0_taken ((s_p0_depth + (1 : Int32))).toNatClampNeg ((s_p0_taken (s_p0_depth).toNatClampNeg) ||| (vshl (1 : Int64) r_9))) s_p1 s_p2)) 0 4 (F := TX4) (N := 9) iX4_take_X4 rfl tyX4 tyX4_ok nmX4 rfl (by decide) (List.mem_of_getElem? (i := 2) rfl) rfl rfl rfl rfl rfl (Nat.le_of_ble_eq_true rfl) rfl dX4_take_112 ?_
      refine v_aload_n X 1 dX4_take_115 rfl rfl ?_
      refine v_aload_n X 2 dX4_take_116 rfl rfl ?_
      refine v_aload_n X 3 dX4_take_117 rfl rfl ?_
      refine v_callVv X (As := [.ref o_p1, .ref o_p2]) (rest := []) 2 0 (c_X4_open (l := vl E) (D := vD E) (T := T) (o_p0 := o_p0) (a_p0 := a_p0) (o_p1 := o_p1) (o_p2 := o_p2) (s_p0_allMet := s_p0_allMet) (s_p0_depth := (s_p0_depth + (1 : Int32))) (s_p0_tryCount := (s_p0_tryCount + (1 : Int32))) (s_p0_isSpent := s_p0_isSpent) (s_p0_foundCount := s_p0_foundCount) (s_p0_foundSet := s_p0_foundSet) (s_p0_left := (vp_updL s_p0_left (s_p0_depth).toNatClampNeg ((s_p0_left (s_p0_depth).toNatClampNeg) &&& ((vshl (1 : Int64) r_9) ^^^ (-1 : Int64))))) (s_p0_met := (vp_updL s_p0_met ((s_p0_depth + (1 : Int32))).toNatClampNeg ((s_p0_met (s_p0_depth).toNatClampNeg) ||| (s_p2 (r_9).toNatClampNeg)))) (s_p0_taken := (vp_updL s_p0_taken ((s_p0_depth + (1 : Int32))).toNatClampNeg ((s_p0_taken (s_p0_depth).toNatClampNeg) ||| (vshl (1 : Int64) r_9)))) (s_p1 := s_p1) (s_p2 := s_p2) h) gX4_take_X4_open rfl rfl (by decide +kernel) ⟨Nat.zero_le _, Nat.zero_le _⟩ ⟨rfl, rfl, by decide, by decide⟩ (Nat.le_of_ble_eq_true rfl) rfl rfl (wr := []) [0, 1, 2, 3, 4, 5] [] rfl rfl rfl rfl (by decide) rfl dX4_take_118 (fun u h => ?_)
      obtain ⟨u_118_0, u_118_1, u_118_2⟩ := u
      dsimp only at h
      refine v_ws (ws' := (cl_X4_take T o_p0 a_p0 o_p1 o_p2 s_p0_allMet (s_p0_depth + (1 : Int32)) (s_p0_tryCount + (1 : Int32)) s_p0_isSpent u_118_0 u_118_1 u_118_2 (vp_updL s_p0_met ((s_p0_depth + (1 : Int32))).toNatClampNeg ((s_p0_met (s_p0_depth).toNatClampNeg) ||| (s_p2 (r_9).toNatClampNeg))) (vp_updL s_p0_taken ((s_p0_depth + (1 : Int32))).toNatClampNeg ((s_p0_taken (s_p0_depth).toNatClampNeg) ||| (vshl (1 : Int64) r_9))) s_p1 s_p2)) [0, 1, 2, 3, 4, 5] rfl rfl ?_
      refine v_lv (lv' := []) [] rfl ?_
      exact k_X4_take_121 X r h
-- X4_seek
abbrev cl_X4_seek (T : Nat → ClassId) (o_p0 : Nat) (a_p0 : Nat → Nat) (o_p2 : Nat) (o_p3 : Nat) (s_p0_allMet : Int64) (s_p0_depth : Int32) (s_p0_tryCount : Int32) (s_p0_isSpent : Int32) (s_p0_foundCount : Int32) (s_p0_foundSet : Int64) (s_p0_left : Nat → Int64) (s_p0_met : Nat → Int64) (s_p0_taken : Nat → Int64) (s_p2 : Nat → Int64) (s_p3 : Nat → Int64) : va_W := [vO o_p0 1 [.ref (a_p0 0), .ref (a_p0 1), .ref (a_p0 2), .long s_p0_allMet, .int s_p0_depth, .int s_p0_tryCount, .int s_p0_isSpent, .int s_p0_foundCount, .long s_p0_foundSet], vJ T (a_p0 2) 46 s_p0_left, vJ T (a_p0 0) 46 s_p0_met, vJ T (a_p0 1) 46 s_p0_taken, vJ T o_p2 45 s_p2, vJ T o_p3 45 s_p3]
abbrev r_X4_seek (E : vE) (T : Nat → ClassId) (o_p0 : Nat) (a_p0 : Nat → Nat) (o_p2 : Nat) (o_p3 : Nat) (s_p2 : Nat → Int64) (s_p3 : Nat → Int64) (Q : (Int64) → (Int32) → (Int32) → (Int32) → (Int32) → (Int64) → (Nat → Int64) → (Nat → Int64) → (Nat → Int64) → Prop) : Prop := vRv E cX4_seek (fun (u : (Int64) × (Int32) × (Int32) × (Int32) × (Int32) × (Int64) × (Nat → Int64) × (Nat → Int64) × (Nat → Int64)) => Q u.1 u.2.1 u.2.2.1 u.2.2.2.1 u.2.2.2.2.1 u.2.2.2.2.2.1 u.2.2.2.2.2.2.1 u.2.2.2.2.2.2.2.1 u.2.2.2.2.2.2.2.2) (fun (u : (Int64) × (Int32) × (Int32) × (Int32) × (Int32) × (Int64) × (Nat → Int64) × (Nat → Int64) × (Nat → Int64)) => (cl_X4_seek T o_p0 a_p0 o_p2 o_p3 u.1 u.2.1 u.2.2.1 u.2.2.2.1 u.2.2.2.2.1 u.2.2.2.2.2.1 u.2.2.2.2.2.2.1 u.2.2.2.2.2.2.2.1 u.2.2.2.2.2.2.2.2 s_p2 s_p3))
def w_X4_seek_132 (s_p0_allMet : Int64) (s_p0_depth : Int32) (s_p0_tryCount : Int32) (s_p0_isSpent : Int32) (s_p0_foundCount : Int32) (s_p0_foundSet : Int64) (s_p0_left : Nat → Int64) (s_p0_met : Nat → Int64) (s_p0_taken : Nat → Int64) (s_p2 : Nat → Int64) (s_p3 : Nat → Int64) (Q : (Int64) → (Int32) → (Int32) → (Int32) → (Int32) → (Int64) → (Nat → Int64) → (Nat → Int64) → (Nat → Int64) → Prop) : Prop := (Q s_p0_allMet s_p0_depth s_p0_tryCount s_p0_isSpent s_p0_foundCount s_p0_foundSet s_p0_left s_p0_met s_p0_taken)
def w_X4_seek_126 (x_4 : Int32) (x_5 : Int32) (x_6 : Int32) (s_p0_allMet : Int64) (s_p0_depth : Int32) (s_p0_tryCount : Int32) (s_p0_isSpent : Int32) (s_p0_foundCount : Int32) (s_p0_foundSet : Int64) (s_p0_left : Nat → Int64) (s_p0_met : Nat → Int64) (s_p0_taken : Nat → Int64) (s_p2 : Nat → Int64) (s_p3 : Nat → Int64) (K_51 : (Int32) → (Int32) → (Int32) → (Int32) → (Int64) → (Nat → Int64) → (Nat → Int64) → (Nat → Int64) → Prop) (Q : (Int64) → (Int32) → (Int32) → (Int32) → (Int32) → (Int64) → (Nat → Int64) → (Nat → Int64) → (Nat → Int64) → Prop) : Prop := (K_51 (x_6 + (1 : Int32)) s_p0_depth s_p0_tryCount s_p0_foundCount s_p0_foundSet s_p0_left s_p0_met s_p0_taken)
def w_X4_seek_78 (x_4 : Int32) (x_5 : Int32) (x_6 : Int32) (s_p0_allMet : Int64) (s_p0_depth : Int32) (s_p0_tryCount : Int32) (s_p0_isSpent : Int32) (s_p0_foundCount : Int32) (s_p0_foundSet : Int64) (s_p0_left : Nat → Int64) (s_p0_met : Nat → Int64) (s_p0_taken : Nat → Int64) (s_p2 : Nat → Int64) (s_p3 : Nat → Int64) (K_51 : (Int32) → (Int32) → (Int32) → (Int32) → (Int64) → (Nat → Int64) → (Nat → Int64) → (Nat → Int64) → Prop) (Q : (Int64) → (Int32) → (Int32) → (Int32) → (Int32) → (Int64) → (Nat → Int64) → (Nat → Int64) → (Nat → Int64) → Prop) : Prop := (vp_in s_p0_depth 46 ∧ ((¬ (lg_cmp (s_p0_left (s_p0_depth).toNatClampNeg) (0 : Int64)) = 0 → ((¬ s_p0_tryCount = x_4 → (w_X4_take s_p0_allMet s_p0_depth s_p0_tryCount s_p0_foundCount s_p0_foundSet s_p0_left s_p0_met s_p0_taken s_p2 s_p3 (fun (u_123_0 : Int32) (u_123_1 : Int32) (u_123_2 : Int32) (u_123_3 : Int64) (u_123_4 : Nat → Int64) (u_123_5 : Nat → Int64) (u_123_6 : Nat → Int64) => (w_X4_seek_126 x_4 x_5 x_6 s_p0_allMet u_123_0 u_123_1 s_p0_isSpent u_123_2 u_123_3 u_123_4 u_123_5 u_123_6 s_p2 s_p3 K_51 Q)))) ∧ (s_p0_tryCount = x_4 → (Q s_p0_allMet s_p0_depth s_p0_tryCount (1 : Int32) s_p0_foundCount s_p0_foundSet s_p0_left s_p0_met s_p0_taken)))) ∧ ((lg_cmp (s_p0_left (s_p0_depth).toNatClampNeg) (0 : Int64)) = 0 → (w_X4_seek_126 x_4 x_5 x_6 s_p0_allMet (s_p0_depth - (1 : Int32)) s_p0_tryCount s_p0_isSpent s_p0_foundCount s_p0_foundSet s_p0_left s_p0_met s_p0_taken s_p2 s_p3 K_51 Q))))
def w_X4_seek_51s (x_4 : Int32) (x_5 : Int32) (s_p0_allMet : Int64) (s_p0_isSpent : Int32) (s_p2 : Nat → Int64) (s_p3 : Nat → Int64) (Q : (Int64) → (Int32) → (Int32) → (Int32) → (Int32) → (Int64) → (Nat → Int64) → (Nat → Int64) → (Nat → Int64) → Prop) (K_51 : (Int32) → (Int32) → (Int32) → (Int32) → (Int64) → (Nat → Int64) → (Nat → Int64) → (Nat → Int64) → Prop) (x_6 : Int32) (s_p0_depth : Int32) (s_p0_tryCount : Int32) (s_p0_foundCount : Int32) (s_p0_foundSet : Int64) (s_p0_left : Nat → Int64) (s_p0_met : Nat → Int64) (s_p0_taken : Nat → Int64) : Prop := (((1000000 : Int32) ≤ x_6 → (w_X4_seek_132 s_p0_allMet s_p0_depth s_p0_tryCount s_p0_isSpent s_p0_foundCount s_p0_foundSet s_p0_left s_p0_met s_p0_taken s_p2 s_p3 Q)) ∧ (¬ (1000000 : Int32) ≤ x_6 → ((s_p0_depth < 0 → (w_X4_seek_132 s_p0_allMet s_p0_depth s_p0_tryCount s_p0_isSpent s_p0_foundCount s_p0_foundSet s_p0_left s_p0_met s_p0_taken s_p2 s_p3 Q)) ∧ (¬ s_p0_depth < 0 → ((s_p0_foundCount ≤ 0 → (w_X4_seek_78 x_4 x_5 x_6 s_p0_allMet s_p0_depth s_p0_tryCount s_p0_isSpent s_p0_foundCount s_p0_foundSet s_p0_left s_p0_met s_p0_taken s_p2 s_p3 K_51 Q)) ∧ (¬ s_p0_foundCount ≤ 0 → ((¬ x_5 = 0 → (w_X4_seek_78 x_4 x_5 x_6 s_p0_allMet s_p0_depth s_p0_tryCount s_p0_isSpent s_p0_foundCount s_p0_foundSet s_p0_left s_p0_met s_p0_taken s_p2 s_p3 K_51 Q)) ∧ (x_5 = 0 → (Q s_p0_allMet s_p0_depth s_p0_tryCount s_p0_isSpent s_p0_foundCount s_p0_foundSet s_p0_left s_p0_met s_p0_taken)))))))))
def w_X4_seek_51 (x_4 : Int32) (x_5 : Int32) (s_p0_allMet : Int64) (s_p0_isSpent : Int32) (s_p2 : Nat → Int64) (s_p3 : Nat → Int64) (Q : (Int64) → (Int32) → (Int32) → (Int32) → (Int32) → (Int64) → (Nat → Int64) → (Nat → Int64) → (Nat → Int64) → Prop) : Nat → (Int32) → (Int32) → (Int32) → (Int32) → (Int64) → (Nat → Int64) → (Nat → Int64) → (Nat → Int64) → Prop
  | 0 => fun _ _ _ _ _ _ _ _ => False
  | n_ + 1 => w_X4_seek_51s x_4 x_5 s_p0_allMet s_p0_isSpent s_p2 s_p3 Q (w_X4_seek_51 x_4 x_5 s_p0_allMet s_p0_isSpent s_p2 s_p3 Q n_)
def w_X4_seek (x_1 : Int32) (x_4 : Int32) (x_5 : Int32) (s_p0_allMet : Int64) (s_p0_depth : Int32) (s_p0_tryCount : Int32) (s_p0_isSpent : Int32) (s_p0_foundCount : Int32) (s_p0_foundSet : Int64) (s_p0_left : Nat → Int64) (s_p0_met : Nat → Int64) (s_p0_taken : Nat → Int64) (s_p2 : Nat → Int64) (s_p3 : Nat → Int64) (Q : (Int64) → (Int32) → (Int32) → (Int32) → (Int32) → (Int64) → (Nat → Int64) → (Nat → Int64) → (Nat → Int64) → Prop) : Prop := (w_X6_below x_1 (fun (r_2 : Int64) => (vp_in (0 : Int32) 46 ∧ (vp_in (0 : Int32) 46 ∧ (w_X4_open r_2 (0 : Int32) (0 : Int32) s_p0_foundSet s_p0_left (vp_updL s_p0_met ((0 : Int32)).toNatClampNeg (0 : Int64)) (vp_updL s_p0_taken ((0 : Int32)).toNatClampNeg (0 : Int64)) s_p2 s_p3 (fun (u_45_0 : Int32) (u_45_1 : Int64) (u_45_2 : Nat → Int64) => (∃ n_, w_X4_seek_51 x_4 x_5 r_2 (0 : Int32) s_p2 s_p3 Q n_ (0 : Int32) (0 : Int32) (0 : Int32) u_45_0 u_45_1 u_45_2 (vp_updL s_p0_met ((0 : Int32)).toNatClampNeg (0 : Int64)) (vp_updL s_p0_taken ((0 : Int32)).toNatClampNeg (0 : Int64)))))))))
-- X4_seek
theorem iX4_seek_X4 : ∀ w ∈ wsX40, w ∈ wsX4_seek := by decide +kernel
set_option maxHeartbeats 4000000 in
set_option maxRecDepth 100000 in
theorem k_X4_seek_132 {E : vE} {T : Nat → ClassId} {o_p0 : Nat} {a_p0 : Nat → Nat} {o_p2 : Nat} {o_p3 : Nat} {s_p0_allMet : Int64} {s_p0_depth : Int32} {s_p0_tryCount : Int32} {s_p0_isSpent : Int32} {s_p0_foundCount : Int32} {s_p0_foundSet : Int64} {s_p0_left : Nat → Int64} {s_p0_met : Nat → Int64} {s_p0_taken : Nat → Int64} {s_p2 : Nat → Int64} {s_p3 : Nat → Int64} {Q : (Int64) → (Int32) → (Int32) → (Int32) → (Int32) → (Int64) → (Nat → Int64) → (Nat → Int64) → (Nat → Int64) → Prop} (X : vX E cX4_seek 7 RX4 wsX4_seek (vT T) (vr 4 89)) (r : r_X4_seek E T o_p0 a_p0 o_p2 o_p3 s_p2 s_p3 Q) (h : w_X4_seek_132 s_p0_allMet s_p0_depth s_p0_tryCount s_p0_isSpent s_p0_foundCount s_p0_foundSet s_p0_left s_p0_met s_p0_taken s_p2 s_p3 Q) : V E 0 0 132 [] [] (cl_X4_seek T o_p0 a_p0 o_p2 o_p3 s_p0_allMet s_p0_depth s_p0_tryCount s_p0_isSpent s_p0_foundCount s_p0_foundSet s_p0_left s_p0_met s_p0_taken s_p2 s_p3) := by
  unfold w_X4_seek_132 at h
  exact r _ _ (s_p0_allMet, s_p0_depth, s_p0_tryCount, s_p0_isSpent, s_p0_foundCount, s_p0_foundSet, s_p0_left, s_p0_met, s_p0_taken) _ dX4_seek_132 h rfl
set_option maxHeartbeats 4000000 in
set_option maxRecDepth 100000 in
theorem k_X4_seek_126 {E : vE} {T : Nat → ClassId} {o_p0 : Nat} {a_p0 : Nat → Nat} {o_p2 : Nat} {o_p3 : Nat} {s_p0_allMet : Int64} {s_p0_depth : Int32} {s_p0_tryCount : Int32} {s_p0_isSpent : Int32} {s_p0_foundCount : Int32} {s_p0_foundSet : Int64} {s_p0_left : Nat → Int64} {s_p0_met : Nat → Int64} {s_p0_taken : Nat → Int64} {s_p2 : Nat → Int64} {s_p3 : Nat → Int64} {x_4 : Int32} {x_5 : Int32} {x_6 : Int32} {K_51 : (Int32) → (Int32) → (Int32) → (Int32) → (Int64) → (Nat → Int64) → (Nat → Int64) → (Nat → Int64) → Prop} {Q : (Int64) → (Int32) → (Int32) → (Int32) → (Int32) → (Int64) → (Nat → Int64) → (Nat → Int64) → (Nat → Int64) → Prop} (X : vX E cX4_seek 7 RX4 wsX4_seek (vT T) (vr 4 89)) (r : r_X4_seek E T o_p0 a_p0 o_p2 o_p3 s_p2 s_p3 Q) (hK_51 : ∀ (x_6' : Int32) (s_p0_depth' : Int32) (s_p0_tryCount' : Int32) (s_p0_foundCount' : Int32) (s_p0_foundSet' : Int64) (s_p0_left' : Nat → Int64) (s_p0_met' : Nat → Int64) (s_p0_taken' : Nat → Int64), K_51 x_6' s_p0_depth' s_p0_tryCount' s_p0_foundCount' s_p0_foundSet' s_p0_left' s_p0_met' s_p0_taken' → V E 0 0 51 [(0, .ref o_p0), (2, .ref o_p2), (3, .ref o_p3), (4, .int x_4), (5, .int x_5), (6, .int x_6')] [] (cl_X4_seek T o_p0 a_p0 o_p2 o_p3 s_p0_allMet s_p0_depth' s_p0_tryCount' s_p0_isSpent s_p0_foundCount' s_p0_foundSet' s_p0_left' s_p0_met' s_p0_taken' s_p2 s_p3)) (h : w_X4_seek_126 x_4 x_5 x_6 s_p0_allMet s_p0_depth s_p0_tryCount s_p0_isSpent s_p0_foundCount s_p0_foundSet s_p0_left s_p0_met s_p0_taken s_p2 s_p3 K_51 Q) : V E 0 0 126 [(0, .ref o_p0), (2, .ref o_p2), (3, .ref o_p3), (4, .int x_4), (5, .int x_5), (6, .int x_6)] [] (cl_X4_seek T o_p0 a_p0 o_p2 o_p3 s_p0_allMet s_p0_depth s_p0_tryCount s_p0_isSpent s_p0_foundCount s_p0_foundSet s_p0_left s_p0_met s_p0_taken s_p2 s_p3) := by
  unfold w_X4_seek_126 at h
  refine v_iinc X (v := (x_6 + (1 : Int32))) (lv' := [(6, .int (x_6 + (1 : Int32))), (0, .ref o_p0), (2, .ref o_p2), (3, .ref o_p3), (4, .int x_4), (5, .int x_5)]) 5 dX4_seek_126 rfl rfl (by decide) rfl ?_
  refine v_goto X (tgt := 51) dX4_seek_129 (by decide) ?_
  refine v_lv (lv' := [(0, .ref o_p0), (2, .ref o_p2), (3, .ref o_p3), (4, .int x_4), (5, .int x_5), (6, .int (x_6 + (1 : Int32)))]) [1, 2, 3, 4, 5, 0] rfl ?_
  exact hK_51 _ _ _ _ _ _ _ _ h
set_option maxHeartbeats 4000000 in
set_option maxRecDepth 100000 in
theorem k_X4_seek_78 {E : vE} {T : Nat → ClassId} {o_p0 : Nat} {a_p0 : Nat → Nat} {o_p2 : Nat} {o_p3 : Nat} {s_p0_allMet : Int64} {s_p0_depth : Int32} {s_p0_tryCount : Int32} {s_p0_isSpent : Int32} {s_p0_foundCount : Int32} {s_p0_foundSet : Int64} {s_p0_left : Nat → Int64} {s_p0_met : Nat → Int64} {s_p0_taken : Nat → Int64} {s_p2 : Nat → Int64} {s_p3 : Nat → Int64} {x_4 : Int32} {x_5 : Int32} {x_6 : Int32} {K_51 : (Int32) → (Int32) → (Int32) → (Int32) → (Int64) → (Nat → Int64) → (Nat → Int64) → (Nat → Int64) → Prop} {Q : (Int64) → (Int32) → (Int32) → (Int32) → (Int32) → (Int64) → (Nat → Int64) → (Nat → Int64) → (Nat → Int64) → Prop} (X : vX E cX4_seek 7 RX4 wsX4_seek (vT T) (vr 4 89)) (r : r_X4_seek E T o_p0 a_p0 o_p2 o_p3 s_p2 s_p3 Q) (hK_51 : ∀ (x_6' : Int32) (s_p0_depth' : Int32) (s_p0_tryCount' : Int32) (s_p0_foundCount' : Int32) (s_p0_foundSet' : Int64) (s_p0_left' : Nat → Int64) (s_p0_met' : Nat → Int64) (s_p0_taken' : Nat → Int64), K_51 x_6' s_p0_depth' s_p0_tryCount' s_p0_foundCount' s_p0_foundSet' s_p0_left' s_p0_met' s_p0_taken' → V E 0 0 51 [(0, .ref o_p0), (2, .ref o_p2), (3, .ref o_p3), (4, .int x_4), (5, .int x_5), (6, .int x_6')] [] (cl_X4_seek T o_p0 a_p0 o_p2 o_p3 s_p0_allMet s_p0_depth' s_p0_tryCount' s_p0_isSpent s_p0_foundCount' s_p0_foundSet' s_p0_left' s_p0_met' s_p0_taken' s_p2 s_p3)) (h : w_X4_seek_78 x_4 x_5 x_6 s_p0_allMet s_p0_depth s_p0_tryCount s_p0_isSpent s_p0_foundCount s_p0_foundSet s_p0_left s_p0_met s_p0_taken s_p2 s_p3 K_51 Q) : V E 0 0 78 [(0, .ref o_p0), (2, .ref o_p2), (3, .ref o_p3), (4, .int x_4), (5, .int x_5), (6, .int x_6)] [] (cl_X4_seek T o_p0 a_p0 o_p2 o_p3 s_p0_allMet s_p0_depth s_p0_tryCount s_p0_isSpent s_p0_foundCount s_p0_foundSet s_p0_left s_p0_met s_p0_taken s_p2 s_p3) := by
  unfold w_X4_seek_78 at h
  refine v_aload_n X 0 dX4_seek_78 rfl rfl ?_
  refine v_get X 0 2 (F := TX4) (N := 9) iX4_seek_X4 rfl rfl (by decide) (List.mem_of_getElem? (i := 9) rfl) rfl rfl dX4_seek_79 ?_
  refine v_aload_n X 0 dX4_seek_82 rfl rfl ?_
  refine v_get X 0 4 (F := TX4) (N := 9) iX4_seek_X4 rfl rfl (by decide) (List.mem_of_getElem? (i := 5) rfl) rfl rfl dX4_seek_83 ?_
  refine v_lald X 1 1 rfl rfl h.1 dX4_seek_86 ?_
  replace h := h.2
  refine v_lconst X dX4_seek_87 (v := (0 : Int64)) (by decide) ?_
  refine v_lcmp X dX4_seek_88 ?_
  refine v_if_ne X (tgt := 105) dX4_seek_89 (by decide) (fun c_89 => ?_) (fun c_89 => ?_)
  · replace h := h.1 c_89
    refine v_aload_n X 0 dX4_seek_105 rfl rfl ?_
    refine v_get X 0 5 (F := TX4) (N := 9) iX4_seek_X4 rfl rfl (by decide) (List.mem_of_getElem? (i := 2) rfl) rfl rfl dX4_seek_106 ?_
    refine v_iload X 3 dX4_seek_109 rfl ?_
    refine v_icmp_ne X (tgt := 120) dX4_seek_111 (by decide) (fun c_111 => ?_) (fun c_111 => ?_)
    · replace h := h.1 c_111
      refine v_aload_n X 0 dX4_seek_120 rfl rfl ?_
      refine v_aload_n X 1 dX4_seek_121 rfl rfl ?_
      refine v_aload_n X 2 dX4_seek_122 rfl rfl ?_
      refine v_callVv X (As := [.ref o_p2, .ref o_p3]) (rest := []) 2 0 (c_X4_take (l := vl E) (D := vD E) (T := T) (o_p0 := o_p0) (a_p0 := a_p0) (o_p1 := o_p2) (o_p2 := o_p3) (s_p0_allMet := s_p0_allMet) (s_p0_depth := s_p0_depth) (s_p0_tryCount := s_p0_tryCount) (s_p0_isSpent := s_p0_isSpent) (s_p0_foundCount := s_p0_foundCount) (s_p0_foundSet := s_p0_foundSet) (s_p0_left := s_p0_left) (s_p0_met := s_p0_met) (s_p0_taken := s_p0_taken) (s_p1 := s_p2) (s_p2 := s_p3) h) gX4_seek_X4_take rfl rfl (by decide +kernel) ⟨Nat.zero_le _, Nat.zero_le _⟩ ⟨rfl, rfl, by decide, by decide⟩ (Nat.le_of_ble_eq_true rfl) rfl rfl (wr := []) [0, 1, 2, 3, 4, 5] [] rfl rfl rfl rfl (by decide) rfl dX4_seek_123 (fun u h => ?_)
      obtain ⟨u_123_0, u_123_1, u_123_2, u_123_3, u_123_4, u_123_5, u_123_6⟩ := u
      dsimp only at h
      refine v_ws (ws' := (cl_X4_seek T o_p0 a_p0 o_p2 o_p3 s_p0_allMet u_123_0 u_123_1 s_p0_isSpent u_123_2 u_123_3 u_123_4 u_123_5 u_123_6 s_p2 s_p3)) [0, 1, 2, 3, 4, 5] rfl rfl ?_
      exact k_X4_seek_126 X r hK_51 h
    · replace h := h.2 c_111
      refine v_aload_n X 0 dX4_seek_114 rfl rfl ?_
      refine v_iconst X dX4_seek_115 (v := (1 : Int32)) (by decide) ?_
      refine v_put X (ws' := (cl_X4_seek T o_p0 a_p0 o_p2 o_p3 s_p0_allMet s_p0_depth s_p0_tryCount (1 : Int32) s_p0_foundCount s_p0_foundSet s_p0_left s_p0_met s_p0_taken s_p2 s_p3)) 0 6 (F := TX4) (N := 9) iX4_seek_X4 rfl tyX4 tyX4_ok nmX4 rfl (by decide) (List.mem_of_getElem? (i := 3) rfl) rfl rfl rfl (by decide) (by decide) (Nat.le_of_ble_eq_true rfl) rfl dX4_seek_116 ?_
      exact r _ _ (s_p0_allMet, s_p0_depth, s_p0_tryCount, (1 : Int32), s_p0_foundCount, s_p0_foundSet, s_p0_left, s_p0_met, s_p0_taken) _ dX4_seek_119 h rfl
  · replace h := h.2 c_89
    refine v_aload_n X 0 dX4_seek_92 rfl rfl ?_
    refine v_dup X dX4_seek_93 rfl ?_
    refine v_get X 0 4 (F := TX4) (N := 9) iX4_seek_X4 rfl rfl (by decide) (List.mem_of_getElem? (i := 5) rfl) rfl rfl dX4_seek_94 ?_
    refine v_iconst X dX4_seek_97 (v := (1 : Int32)) (by decide) ?_
    refine v_isub X dX4_seek_98 ?_
    refine v_put X (ws' := (cl_X4_seek T o_p0 a_p0 o_p2 o_p3 s_p0_allMet (s_p0_depth - (1 : Int32)) s_p0_tryCount s_p0_isSpent s_p0_foundCount s_p0_foundSet s_p0_left s_p0_met s_p0_taken s_p2 s_p3)) 0 4 (F := TX4) (N := 9) iX4_seek_X4 rfl tyX4 tyX4_ok nmX4 rfl (by decide) (List.mem_of_getElem? (i := 5) rfl) rfl rfl rfl rfl rfl (Nat.le_of_ble_eq_true rfl) rfl dX4_seek_99 ?_
    refine v_goto X (tgt := 126) dX4_seek_102 (by decide) ?_
    exact k_X4_seek_126 X r hK_51 h
set_option maxHeartbeats 4000000 in
set_option maxRecDepth 100000 in
theorem k_X4_seek_51 {E : vE} {T : Nat → ClassId} {o_p0 : Nat} {a_p0 : Nat → Nat} {o_p2 : Nat} {o_p3 : Nat} {s_p0_allMet : Int64} {s_p0_isSpent : Int32} {s_p2 : Nat → Int64} {s_p3 : Nat → Int64} {x_4 : Int32} {x_5 : Int32} {Q : (Int64) → (Int32) → (Int32) → (Int32) → (Int32) → (Int64) → (Nat → Int64) → (Nat → Int64) → (Nat → Int64) → Prop} (X : vX E cX4_seek 7 RX4 wsX4_seek (vT T) (vr 4 89)) (r : r_X4_seek E T o_p0 a_p0 o_p2 o_p3 s_p2 s_p3 Q) : ∀ (n_ : Nat) (x_6 : Int32) (s_p0_depth : Int32) (s_p0_tryCount : Int32) (s_p0_foundCount : Int32) (s_p0_foundSet : Int64) (s_p0_left : Nat → Int64) (s_p0_met : Nat → Int64) (s_p0_taken : Nat → Int64), w_X4_seek_51 x_4 x_5 s_p0_allMet s_p0_isSpent s_p2 s_p3 Q n_ x_6 s_p0_depth s_p0_tryCount s_p0_foundCount s_p0_foundSet s_p0_left s_p0_met s_p0_taken → V E 0 0 51 [(0, .ref o_p0), (2, .ref o_p2), (3, .ref o_p3), (4, .int x_4), (5, .int x_5), (6, .int x_6)] [] (cl_X4_seek T o_p0 a_p0 o_p2 o_p3 s_p0_allMet s_p0_depth s_p0_tryCount s_p0_isSpent s_p0_foundCount s_p0_foundSet s_p0_left s_p0_met s_p0_taken s_p2 s_p3) := by
  intro n_
  induction n_ with
  | zero => intro x_6 s_p0_depth s_p0_tryCount s_p0_foundCount s_p0_foundSet s_p0_left s_p0_met s_p0_taken h; exact h.elim
  | succ n_ hK_51 =>
    intro x_6 s_p0_depth s_p0_tryCount s_p0_foundCount s_p0_foundSet s_p0_left s_p0_met s_p0_taken h
    replace h : w_X4_seek_51s x_4 x_5 s_p0_allMet s_p0_isSpent s_p2 s_p3 Q (w_X4_seek_51 x_4 x_5 s_p0_allMet s_p0_isSpent s_p2 s_p3 Q n_) x_6 s_p0_depth s_p0_tryCount s_p0_foundCount s_p0_foundSet s_p0_left s_p0_met s_p0_taken := h
    unfold w_X4_seek_51s at h
    refine v_iload X 5 dX4_seek_51 rfl ?_
    refine v_ldc X (v := (1000000 : Int32)) (List.mem_of_getElem? (i := 8) rfl) dX4_seek_53 ?_
    refine v_icmp_ge X (tgt := 132) dX4_seek_55 (by decide) (fun c_55 => ?_) (fun c_55 => ?_)
    · replace h := h.1 c_55
      refine v_lv (lv' := []) [] rfl ?_
      exact k_X4_seek_132 X r h
    · replace h := h.2 c_55
      refine v_aload_n X 0 dX4_seek_58 rfl rfl ?_
      refine v_get X 0 4 (F := TX4) (N := 9) iX4_seek_X4 rfl rfl (by decide) (List.mem_of_getElem? (i := 5) rfl) rfl rfl dX4_seek_59 ?_
      refine v_if_lt X (tgt := 132) dX4_seek_62 (by decide) (fun c_62 => ?_) (fun c_62 => ?_)
      · replace h := h.1 c_62
        refine v_lv (lv' := []) [] rfl ?_
        exact k_X4_seek_132 X r h
      · replace h := h.2 c_62
        refine v_aload_n X 0 dX4_seek_65 rfl rfl ?_
        refine v_get X 0 7 (F := TX4) (N := 9) iX4_seek_X4 rfl rfl (by decide) (List.mem_of_getElem? (i := 4) rfl) rfl rfl dX4_seek_66 ?_
        refine v_if_le X (tgt := 78) dX4_seek_69 (by decide) (fun c_69 => ?_) (fun c_69 => ?_)
        · replace h := h.1 c_69
          exact k_X4_seek_78 X r hK_51 h
        · replace h := h.2 c_69
          refine v_iload X 4 dX4_seek_72 rfl ?_
          refine v_if_ne X (tgt := 78) dX4_seek_74 (by decide) (fun c_74 => ?_) (fun c_74 => ?_)
          · replace h := h.1 c_74
            exact k_X4_seek_78 X r hK_51 h
          · replace h := h.2 c_74
            exact r _ _ (s_p0_allMet, s_p0_depth, s_p0_tryCount, s_p0_isSpent, s_p0_foundCount, s_p0_foundSet, s_p0_left, s_p0_met, s_p0_taken) _ dX4_seek_77 h rfl
set_option maxHeartbeats 4000000 in
set_option maxRecDepth 100000 in
theorem c_X4_seek {l : Launch} {D : va_G} {T : Nat → ClassId} {o_p0 : Nat} {a_p0 : Nat → Nat} {o_p2 : Nat} {o_p3 : Nat} {s_p0_allMet : Int64} {s_p0_depth : Int32} {s_p0_tryCount : Int32} {s_p0_isSpent : Int32} {s_p0_foundCount : Int32} {s_p0_foundSet : Int64} {s_p0_left : Nat → Int64} {s_p0_met : Nat → Int64} {s_p0_taken : Nat → Int64} {s_p2 : Nat → Int64} {s_p3 : Nat → Int64} {x_1 : Int32} {x_4 : Int32} {x_5 : Int32} {Q : (Int64) → (Int32) → (Int32) → (Int32) → (Int32) → (Int64) → (Nat → Int64) → (Nat → Int64) → (Nat → Int64) → Prop} (h : w_X4_seek x_1 x_4 x_5 s_p0_allMet s_p0_depth s_p0_tryCount s_p0_isSpent s_p0_foundCount s_p0_foundSet s_p0_left s_p0_met s_p0_taken s_p2 s_p3 Q) : vCv l D (vT T) yX4_seek wsX4_seek (vr 4 89) [.ref o_p0, .int x_1, .ref o_p2, .ref o_p3, .int x_4, .int x_5] (cl_X4_seek T o_p0 a_p0 o_p2 o_p3 s_p0_allMet s_p0_depth s_p0_tryCount s_p0_isSpent s_p0_foundCount s_p0_foundSet s_p0_left s_p0_met s_p0_taken s_p2 s_p3) (fun (u : (Int64) × (Int32) × (Int32) × (Int32) × (Int32) × (Int64) × (Nat → Int64) × (Nat → Int64) × (Nat → Int64)) => Q u.1 u.2.1 u.2.2.1 u.2.2.2.1 u.2.2.2.2.1 u.2.2.2.2.2.1 u.2.2.2.2.2.2.1 u.2.2.2.2.2.2.2.1 u.2.2.2.2.2.2.2.2) (fun (u : (Int64) × (Int32) × (Int32) × (Int32) × (Int32) × (Int64) × (Nat → Int64) × (Nat → Int64) × (Nat → Int64)) => (cl_X4_seek T o_p0 a_p0 o_p2 o_p3 u.1 u.2.1 u.2.2.1 u.2.2.2.1 u.2.2.2.2.1 u.2.2.2.2.2.1 u.2.2.2.2.2.2.1 u.2.2.2.2.2.2.2.1 u.2.2.2.2.2.2.2.2 s_p2 s_p3)) := by
  refine vC_v (cc := cX4_seek) (nL := 7) (by decide +kernel) rfl ⟨rfl, rfl⟩ (Nat.le_of_ble_eq_true rfl) rfl ?_
  intro E el eD X r
  unfold w_X4_seek at h
  refine v_aload_n X 0 dX4_seek_0 rfl rfl ?_
  refine v_iload_n X 1 dX4_seek_1 rfl rfl ?_
  refine v_callNl0 X (As := [.int x_1]) (rest := [.ref o_p0]) 1 (c_X6_below (l := vl E) (D := vD E) (T := T) (x_0 := x_1) h) gX4_seek_X6_below_n21 (List.mem_of_getElem? (i := 41) rfl) (List.mem_of_getElem? (i := 11) rfl) (List.mem_of_getElem? (i := 10) rfl) rfl rfl (by decide +kernel) ⟨Nat.zero_le _, Nat.zero_le _⟩ ⟨rfl, rfl, by decide, by decide⟩ (Nat.le_of_ble_eq_true rfl) rfl dX4_seek_2 (fun r_2 h => ?_)
  refine v_put X (ws' := (cl_X4_seek T o_p0 a_p0 o_p2 o_p3 r_2 s_p0_depth s_p0_tryCount s_p0_isSpent s_p0_foundCount s_p0_foundSet s_p0_left s_p0_met s_p0_taken s_p2 s_p3)) 0 3 (F := TX4) (N := 9) iX4_seek_X4 rfl tyX4 tyX4_ok nmX4 rfl (by decide) (List.mem_of_getElem? (i := 1) rfl) rfl rfl rfl rfl rfl (Nat.le_of_ble_eq_true rfl) rfl dX4_seek_5 ?_
  refine v_aload_n X 0 dX4_seek_8 rfl rfl ?_
  refine v_iconst X dX4_seek_9 (v := (0 : Int32)) (by decide) ?_
  refine v_put X (ws' := (cl_X4_seek T o_p0 a_p0 o_p2 o_p3 r_2 s_p0_depth (0 : Int32) s_p0_isSpent s_p0_foundCount s_p0_foundSet s_p0_left s_p0_met s_p0_taken s_p2 s_p3)) 0 5 (F := TX4) (N := 9) iX4_seek_X4 rfl tyX4 tyX4_ok nmX4 rfl (by decide) (List.mem_of_getElem? (i := 2) rfl) rfl rfl rfl rfl rfl (Nat.le_of_ble_eq_true rfl) rfl dX4_seek_10 ?_
  refine v_aload_n X 0 dX4_seek_13 rfl rfl ?_
  refine v_iconst X dX4_seek_14 (v := (0 : Int32)) (by decide) ?_
  refine v_put X (ws' := (cl_X4_seek T o_p0 a_p0 o_p2 o_p3 r_2 s_p0_depth (0 : Int32) (0 : Int32) s_p0_foundCount s_p0_foundSet s_p0_left s_p0_met s_p0_taken s_p2 s_p3)) 0 6 (F := TX4) (N := 9) iX4_seek_X4 rfl tyX4 tyX4_ok nmX4 rfl (by decide) (List.mem_of_getElem? (i := 3) rfl) rfl rfl rfl (by decide) (by decide) (Nat.le_of_ble_eq_true rfl) rfl dX4_seek_15 ?_
  refine v_aload_n X 0 dX4_seek_18 rfl rfl ?_
  refine v_iconst X dX4_seek_19 (v := (0 : Int32)) (by decide) ?_
  refine v_put X (ws' := (cl_X4_seek T o_p0 a_p0 o_p2 o_p3 r_2 s_p0_depth (0 : Int32) (0 : Int32) (0 : Int32) s_p0_foundSet s_p0_left s_p0_met s_p0_taken s_p2 s_p3)) 0 7 (F := TX4) (N := 9) iX4_seek_X4 rfl tyX4 tyX4_ok nmX4 rfl (by decide) (List.mem_of_getElem? (i := 4) rfl) rfl rfl rfl rfl rfl (Nat.le_of_ble_eq_true rfl) rfl dX4_seek_20 ?_
  refine v_aload_n X 0 dX4_seek_23 rfl rfl ?_
  refine v_iconst X dX4_seek_24 (v := (0 : Int32)) (by decide) ?_
  refine v_put X (ws' := (cl_X4_seek T o_p0 a_p0 o_p2 o_p3 r_2 (0 : Int32) (0 : Int32) (0 : Int32) (0 : Int32) s_p0_foundSet s_p0_left s_p0_met s_p0_taken s_p2 s_p3)) 0 4 (F := TX4) (N := 9) iX4_seek_X4 rfl tyX4 tyX4_ok nmX4 rfl (by decide) (List.mem_of_getElem? (i := 5) rfl) rfl rfl rfl rfl rfl (Nat.le_of_ble_eq_true rfl) rfl dX4_seek_25 ?_
  refine v_aload_n X 0 dX4_seek_28 rfl rfl ?_
  refine v_get X 0 0 (F := TX4) (N := 9) iX4_seek_X4 rfl rfl (by decide) (List.mem_of_getElem? (i := 6) rfl) rfl rfl dX4_seek_29 ?_
  refine v_iconst X dX4_seek_32 (v := (0 : Int32)) (by decide) ?_
  refine v_lconst X dX4_seek_33 (v := (0 : Int64)) (by decide) ?_
  refine v_last X (ws' := (cl_X4_seek T o_p0 a_p0 o_p2 o_p3 r_2 (0 : Int32) (0 : Int32) (0 : Int32) (0 : Int32) s_p0_foundSet s_p0_left (vp_updL s_p0_met ((0 : Int32)).toNatClampNeg (0 : Int64)) s_p0_taken s_p2 s_p3)) 2 1 rfl rfl h.1 rfl dX4_seek_34 ?_
  replace h := h.2
  refine v_aload_n X 0 dX4_seek_35 rfl rfl ?_
  refine v_get X 0 1 (F := TX4) (N := 9) iX4_seek_X4 rfl rfl (by decide) (List.mem_of_getElem? (i := 7) rfl) rfl rfl dX4_seek_36 ?_
  refine v_iconst X dX4_seek_39 (v := (0 : Int32)) (by decide) ?_
  refine v_lconst X dX4_seek_40 (v := (0 : Int64)) (by decide) ?_
  refine v_last X (ws' := (cl_X4_seek T o_p0 a_p0 o_p2 o_p3 r_2 (0 : Int32) (0 : Int32) (0 : Int32) (0 : Int32) s_p0_foundSet s_p0_left (vp_updL s_p0_met ((0 : Int32)).toNatClampNeg (0 : Int64)) (vp_updL s_p0_taken ((0 : Int32)).toNatClampNeg (0 : Int64)) s_p2 s_p3)) 3 1 rfl rfl h.1 rfl dX4_seek_41 ?_
  replace h := h.2
  refine v_aload_n X 0 dX4_seek_42 rfl rfl ?_
  refine v_aload_n X 2 dX4_seek_43 rfl rfl ?_
  refine v_aload_n X 3 dX4_seek_44 rfl rfl ?_
  refine v_callVv X (As := [.ref o_p2, .ref o_p3]) (rest := []) 2 0 (c_X4_open (l := vl E) (D := vD E) (T := T) (o_p0 := o_p0) (a_p0 := a_p0) (o_p1 := o_p2) (o_p2 := o_p3) (s_p0_allMet := r_2) (s_p0_depth := (0 : Int32)) (s_p0_tryCount := (0 : Int32)) (s_p0_isSpent := (0 : Int32)) (s_p0_foundCount := (0 : Int32)) (s_p0_foundSet := s_p0_foundSet) (s_p0_left := s_p0_left) (s_p0_met := (vp_updL s_p0_met ((0 : Int32)).toNatClampNeg (0 : Int64))) (s_p0_taken := (vp_updL s_p0_taken ((0 : Int32)).toNatClampNeg (0 : Int64))) (s_p1 := s_p2) (s_p2 := s_p3) h) gX4_seek_X4_open rfl rfl (by decide +kernel) ⟨Nat.zero_le _, Nat.zero_le _⟩ ⟨rfl, rfl, by decide, by decide⟩ (Nat.le_of_ble_eq_true rfl) rfl rfl (wr := []) [0, 1, 2, 3, 4, 5] [] rfl rfl rfl rfl (by decide) rfl dX4_seek_45 (fun u h => ?_)
  obtain ⟨u_45_0, u_45_1, u_45_2⟩ := u
  dsimp only at h
  refine v_ws (ws' := (cl_X4_seek T o_p0 a_p0 o_p2 o_p3 r_2 (0 : Int32) (0 : Int32) (0 : Int32) u_45_0 u_45_1 u_45_2 (vp_updL s_p0_met ((0 : Int32)).toNatClampNeg (0 : Int64)) (vp_updL s_p0_taken ((0 : Int32)).toNatClampNeg (0 : Int64)) s_p2 s_p3)) [0, 1, 2, 3, 4, 5] rfl rfl ?_
  refine v_iconst X dX4_seek_48 (v := (0 : Int32)) (by decide) ?_
  refine v_istore X (lv' := [(6, .int (0 : Int32)), (0, .ref o_p0), (1, .int x_1), (2, .ref o_p2), (3, .ref o_p3), (4, .int x_4), (5, .int x_5)]) dX4_seek_49 (by decide) rfl ?_
  refine v_lv (lv' := [(0, .ref o_p0), (2, .ref o_p2), (3, .ref o_p3), (4, .int x_4), (5, .int x_5), (6, .int (0 : Int32))]) [1, 3, 4, 5, 6, 0] rfl ?_
  obtain ⟨n_, h⟩ := h
  exact k_X4_seek_51 X r n_ _ _ _ _ _ _ _ _ h