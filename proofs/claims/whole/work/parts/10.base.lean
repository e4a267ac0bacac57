-- J13_bitCount_95d88
abbrev cl_J13_bitCount_95d88 (T : Nat → ClassId) : va_W := []
abbrev r_J13_bitCount_95d88 (E : vE) (T : Nat → ClassId) (Q : Int32 → Prop) : Prop := vRi E cJ13_bitCount_95d88 (fun v (u : Unit) => Q v) (fun (u : Unit) => (cl_J13_bitCount_95d88 T))
def w_J13_bitCount_95d88 (x_0 : Int64) (Q : Int32 → Prop) : Prop := (∀ (y_23 : Int64), y_23 = (((x_0 - ((vushr x_0 (1 : Int32)) &&& (6148914691236517205 : Int64))) &&& (3689348814741910323 : Int64)) + ((vushr (x_0 - ((vushr x_0 (1 : Int32)) &&& (6148914691236517205 : Int64))) (2 : Int32)) &&& (3689348814741910323 : Int64))) → (∀ (y_40 : Int64), y_40 = (((y_23 + (vushr y_23 (4 : Int32))) &&& (1085102592571150095 : Int64)) + (vushr ((y_23 + (vushr y_23 (4 : Int32))) &&& (1085102592571150095 : Int64)) (8 : Int32))) → (∀ (y_54 : Int64), y_54 = ((y_40 + (vushr y_40 (16 : Int32))) + (vushr (y_40 + (vushr y_40 (16 : Int32))) (32 : Int32))) → (Q ((y_54).toInt32 &&& (127 : Int32))))))
-- J13_bitCount_95d88
set_option maxHeartbeats 4000000 in
set_option maxRecDepth 100000 in
theorem c_J13_bitCount_95d88 {l : Launch} {D : va_G} {T : Nat → ClassId} {x_0 : Int64} {Q : Int32 → Prop} (h : w_J13_bitCount_95d88 x_0 Q) : vCi l D (vT T) yJ13_bitCount_95d88 wsJ13_bitCount_95d88 (vr 0 0) [.long x_0] (cl_J13_bitCount_95d88 T) (fun v (u : Unit) => Q v) (fun (u : Unit) => (cl_J13_bitCount_95d88 T)) := by
  refine vC_i (cc := cJ13_bitCount_95d88) (nL := 2) (by decide +kernel) rfl ⟨rfl, rfl⟩ (Nat.le_of_ble_eq_true rfl) rfl ?_
  intro E el eD X r
  unfold w_J13_bitCount_95d88 at h
  refine v_lload_n X 0 dJ13_bitCount_95d88_0 rfl rfl ?_
  refine v_lload_n X 0 dJ13_bitCount_95d88_1 rfl rfl ?_
  refine v_iconst X dJ13_bitCount_95d88_2 (v := (1 : Int32)) (by decide) ?_
  refine v_lushr X dJ13_bitCount_95d88_3 ?_
  refine v_ldc2 X (v := (6148914691236517205 : Int64)) (List.mem_of_getElem? (i := 1) rfl) dJ13_bitCount_95d88_4 ?_
  refine v_land X dJ13_bitCount_95d88_7 ?_
  refine v_lsub X dJ13_bitCount_95d88_8 ?_
  refine v_lstore_n X (lv' := [(0, .long (x_0 - ((vushr x_0 (1 : Int32)) &&& (6148914691236517205 : Int64))))]) dJ13_bitCount_95d88_9 rfl (by decide) rfl ?_
  refine v_lload_n X 0 dJ13_bitCount_95d88_10 rfl rfl ?_
  refine v_ldc2 X (v := (3689348814741910323 : Int64)) (List.mem_of_getElem? (i := 2) rfl) dJ13_bitCount_95d88_11 ?_
  refine v_land X dJ13_bitCount_95d88_14 ?_
  refine v_lload_n X 0 dJ13_bitCount_95d88_15 rfl rfl ?_
  refine v_iconst X dJ13_bitCount_95d88_16 (v := (2 : Int32)) (by decide) ?_
  refine v_lushr X dJ13_bitCount_95d88_17 ?_
  refine v_ldc2 X (v := (3689348814741910323 : Int64)) (List.mem_of_getElem? (i := 2) rfl) dJ13_bitCount_95d88_18 ?_
  refine v_land X dJ13_bitCount_95d88_21 ?_
  refine v_ladd X dJ13_bitCount_95d88_22 ?_
  refine v_topl (fun y_23 e_23 => ?_)
  replace h := h y_23 e_23
  refine v_lstore_n X (lv' := [(0, .long y_23)]) dJ13_bitCount_95d88_23 rfl (by decide) rfl ?_
  refine v_lload_n X 0 dJ13_bitCount_95d88_24 rfl rfl ?_
  refine v_lload_n X 0 dJ13_bitCount_95d88_25 rfl rfl ?_
  refine v_iconst X dJ13_bitCount_95d88_26 (v := (4 : Int32)) (by decide) ?_
  refine v_lushr X dJ13_bitCount_95d88_27 ?_
  refine v_ladd X dJ13_bitCount_95d88_28 ?_
  refine v_ldc2 X (v := (1085102592571150095 : Int64)) (List.mem_of_getElem? (i := 3) rfl) dJ13_bitCount_95d88_29 ?_
  refine v_land X dJ13_bitCount_95d88_32 ?_
  refine v_lstore_n X (lv' := [(0, .long ((y_23 + (vushr y_23 (4 : Int32))) &&& (1085102592571150095 : Int64)))]) dJ13_bitCount_95d88_33 rfl (by decide) rfl ?_
  refine v_lload_n X 0 dJ13_bitCount_95d88_34 rfl rfl ?_
  refine v_lload_n X 0 dJ13_bitCount_95d88_35 rfl rfl ?_
  refine v_bipush X dJ13_bitCount_95d88_36 (v := (8 : Int32)) (by decide) ?_
  refine v_lushr X dJ13_bitCount_95d88_38 ?_
  refine v_ladd X dJ13_bitCount_95d88_39 ?_
  refine v_topl (fun y_40 e_40 => ?_)
  replace h := h y_40 e_40
  refine v_lstore_n X (lv' := [(0, .long y_40)]) dJ13_bitCount_95d88_40 rfl (by decide) rfl ?_
  refine v_lload_n X 0 dJ13_bitCount_95d88_41 rfl rfl ?_
  refine v_lload_n X 0 dJ13_bitCount_95d88_42 rfl rfl ?_
  refine v_bipush X dJ13_bitCount_95d88_43 (v := (16 : Int32)) (by decide) ?_
  refine v_lushr X dJ13_bitCount_95d88_45 ?_
  refine v_ladd X dJ13_bitCount_95d88_46 ?_
  refine v_lstore_n X (lv' := [(0, .long (y_40 + (vushr y_40 (16 : Int32))))]) dJ13_bitCount_95d88_47 rfl (by decide) rfl ?_
  refine v_lload_n X 0 dJ13_bitCount_95d88_48 rfl rfl ?_
  refine v_lload_n X 0 dJ13_bitCount_95d88_49 rfl rfl ?_
  refine v_bipush X dJ13_bitCount_95d88_50 (v := (32 : Int32)) (by decide) ?_
  refine v_lushr X dJ13_bitCount_95d88_52 ?_
  refine v_ladd X dJ13_bitCount_95d88_53 ?_
  refine v_topl (fun y_54 e_54 => ?_)
  replace h := h y_54 e_54
  refine v_lstore_n X (lv' := [(0, .long y_54)]) dJ13_bitCount_95d88_54 rfl (by decide) rfl ?_
  refine v_lload_n X 0 dJ13_bitCount_95d88_55 rfl rfl ?_
  refine v_l2i X dJ13_bitCount_95d88_56 ?_
  refine v_bipush X dJ13_bitCount_95d88_57 (v := (127 : Int32)) (by decide) ?_
  refine v_iand X dJ13_bitCount_95d88_59 ?_
  exact r _ _ _ () _ dJ13_bitCount_95d88_60 h rfl
-- X6_has
abbrev cl_X6_has (T : Nat → ClassId) : va_W := []
abbrev r_X6_has (E : vE) (T : Nat → ClassId) (Q : Int32 → Prop) : Prop := vRz E cX6_has (fun v (u : Unit) => Q v) (fun (u : Unit) => (cl_X6_has T))
def w_X6_has_15 (t_0 : Int32) (Q : Int32 → Prop) : Prop := (vz t_0 ∧ Q t_0)
def w_X6_has (x_0 : Int64) (x_2 : Int32) (Q : Int32 → Prop) : Prop := (((lg_cmp ((vushr x_0 x_2) &&& (1 : Int64)) (0 : Int64)) = 0 → (w_X6_has_15 (0 : Int32) Q)) ∧ (¬ (lg_cmp ((vushr x_0 x_2) &&& (1 : Int64)) (0 : Int64)) = 0 → (w_X6_has_15 (1 : Int32) Q)))
-- X6_has
set_option maxHeartbeats 4000000 in
set_option maxRecDepth 100000 in
theorem k_X6_has_15 {E : vE} {T : Nat → ClassId} {t_0 : Int32} {Q : Int32 → Prop} (X : vX E cX6_has 3 RX6 wsX6_has (vT T) (vr 0 0)) (r : r_X6_has E T Q) (h : w_X6_has_15 t_0 Q) : V E 0 0 15 [] [.int t_0] (cl_X6_has T) := by
  unfold w_X6_has_15 at h
  exact r _ _ _ () _ dX6_has_15 h.1 h.2 rfl
set_option maxHeartbeats 4000000 in
set_option maxRecDepth 100000 in
theorem c_X6_has {l : Launch} {D : va_G} {T : Nat → ClassId} {x_0 : Int64} {x_2 : Int32} {Q : Int32 → Prop} (h : w_X6_has x_0 x_2 Q) : vCi l D (vT T) yX6_has wsX6_has (vr 0 0) [.long x_0, .int x_2] (cl_X6_has T) (fun v (u : Unit) => Q v) (fun (u : Unit) => (cl_X6_has T)) := by
  refine vC_z (cc := cX6_has) (nL := 3) (by decide +kernel) rfl ⟨rfl, rfl⟩ (Nat.le_of_ble_eq_true rfl) rfl ?_
  intro E el eD X r
  unfold w_X6_has at h
  refine v_lload_n X 0 dX6_has_0 rfl rfl ?_
  refine v_iload_n X 1 dX6_has_1 rfl rfl ?_
  refine v_lushr X dX6_has_2 ?_
  refine v_lconst X dX6_has_3 (v := (1 : Int64)) (by decide) ?_
  refine v_land X dX6_has_4 ?_
  refine v_lconst X dX6_has_5 (v := (0 : Int64)) (by decide) ?_
  refine v_lcmp X dX6_has_6 ?_
  refine v_if_eq X (tgt := 14) dX6_has_7 (by decide) (fun c_7 => ?_) (fun c_7 => ?_)
  · replace h := h.1 c_7
    refine v_iconst X dX6_has_14 (v := (0 : Int32)) (by decide) ?_
    refine v_lv (lv' := []) [] rfl ?_
    exact k_X6_has_15 X r h
  · replace h := h.2 c_7
    refine v_iconst X dX6_has_10 (v := (1 : Int32)) (by decide) ?_
    refine v_goto X (tgt := 15) dX6_has_11 (by decide) ?_
    refine v_lv (lv' := []) [] rfl ?_
    exact k_X6_has_15 X r h
-- X6_below
abbrev cl_X6_below (T : Nat → ClassId) : va_W := []
abbrev r_X6_below (E : vE) (T : Nat → ClassId) (Q : Int64 → Prop) : Prop := vRl E cX6_below (fun v (u : Unit) => Q v) (fun (u : Unit) => (cl_X6_below T))
def w_X6_below (x_0 : Int32) (Q : Int64 → Prop) : Prop := (Q ((vshl (1 : Int64) x_0) - (1 : Int64)))
-- X6_below
set_option maxHeartbeats 4000000 in
set_option maxRecDepth 100000 in
theorem c_X6_below {l : Launch} {D : va_G} {T : Nat → ClassId} {x_0 : Int32} {Q : Int64 → Prop} (h : w_X6_below x_0 Q) : vCl l D (vT T) yX6_below wsX6_below (vr 0 0) [.int x_0] (cl_X6_below T) (fun v (u : Unit) => Q v) (fun (u : Unit) => (cl_X6_below T)) := by
  refine vC_l (cc := cX6_below) (nL := 1) (by decide +kernel) rfl ⟨rfl, rfl⟩ (Nat.le_of_ble_eq_true rfl) rfl ?_
  intro E el eD X r
  unfold w_X6_below at h
  refine v_lconst X dX6_below_0 (v := (1 : Int64)) (by decide) ?_
  refine v_iload_n X 0 dX6_below_1 rfl rfl ?_
  refine v_lshl X dX6_below_2 ?_
  refine v_lconst X dX6_below_3 (v := (1 : Int64)) (by decide) ?_
  refine v_lsub X dX6_below_4 ?_
  exact r _ _ _ () _ dX6_below_5 h rfl
-- X6_leastOf
abbrev cl_X6_leastOf (T : Nat → ClassId) : va_W := []
abbrev r_X6_leastOf (E : vE) (T : Nat → ClassId) (Q : Int32 → Prop) : Prop := vRi E cX6_leastOf (fun v (u : Unit) => Q v) (fun (u : Unit) => (cl_X6_leastOf T))
def w_X6_leastOf (x_0 : Int64) (Q : Int32 → Prop) : Prop := (w_J13_bitCount_95d88 ((x_0 &&& (-x_0)) - (1 : Int64)) (fun (r_6 : Int32) => (Q r_6)))
-- X6_leastOf
set_option maxHeartbeats 4000000 in
set_option maxRecDepth 100000 in
theorem c_X6_leastOf {l : Launch} {D : va_G} {T : Nat → ClassId} {x_0 : Int64} {Q : Int32 → Prop} (h : w_X6_leastOf x_0 Q) : vCi l D (vT T) yX6_leastOf wsX6_leastOf (vr 1 21) [.long x_0] (cl_X6_leastOf T) (fun v (u : Unit) => Q v) (fun (u : Unit) => (cl_X6_leastOf T)) := by
  refine vC_i (cc := cX6_leastOf) (nL := 2) (by decide +kernel) rfl ⟨rfl, rfl⟩ (Nat.le_of_ble_eq_true rfl) rfl ?_
  intro E el eD X r
  unfold w_X6_leastOf at h
  refine v_lload_n X 0 dX6_leastOf_0 rfl rfl ?_
  refine v_lload_n X 0 dX6_leastOf_1 rfl rfl ?_
  refine v_lneg X dX6_leastOf_2 ?_
  refine v_land X dX6_leastOf_3 ?_
  refine v_lconst X dX6_leastOf_4 (v := (1 : Int64)) (by decide) ?_
  refine v_lsub X dX6_leastOf_5 ?_
  refine v_callSi0 X (As := [.long ((x_0 &&& (-x_0)) - (1 : Int64))]) (rest := []) 1 (c_J13_bitCount_95d88 (l := vl E) (D := vD E) (T := T) (x_0 := ((x_0 &&& (-x_0)) - (1 : Int64))) h) gX6_leastOf_J13_bitCount_95d88 rfl rfl (by decide +kernel) ⟨Nat.zero_le _, Nat.zero_le _⟩ ⟨rfl, rfl, by decide, by decide⟩ (Nat.le_of_ble_eq_true rfl) rfl dX6_leastOf_6 (fun r_6 h => ?_)
  exact r _ _ _ () _ dX6_leastOf_9 h rfl
-- J9_floorMod_7cf53
abbrev cl_J9_floorMod_7cf53 (T : Nat → ClassId) : va_W := []
abbrev r_J9_floorMod_7cf53 (E : vE) (T : Nat → ClassId) (Q : Int32 → Prop) : Prop := vRi E cJ9_floorMod_7cf53 (fun v (u : Unit) => Q v) (fun (u : Unit) => (cl_J9_floorMod_7cf53 T))
def w_J9_floorMod_7cf53_18 (x_2 : Int32) (Q : Int32 → Prop) : Prop := (Q x_2)
def w_J9_floorMod_7cf53 (x_0 : Int32) (x_1 : Int32) (Q : Int32 → Prop) : Prop := (¬ x_1 = 0 ∧ ((0 ≤ (x_0 ^^^ x_1) → (w_J9_floorMod_7cf53_18 (vrem x_0 x_1) Q)) ∧ (¬ 0 ≤ (x_0 ^^^ x_1) → (((vrem x_0 x_1) = 0 → (w_J9_floorMod_7cf53_18 (vrem x_0 x_1) Q)) ∧ (¬ (vrem x_0 x_1) = 0 → (Q ((vrem x_0 x_1) + x_1)))))))
-- J9_floorMod_7cf53
set_option maxHeartbeats 4000000 in
set_option maxRecDepth 100000 in
theorem k_J9_floorMod_7cf53_18 {E : vE} {T : Nat → ClassId} {x_2 : Int32} {Q : Int32 → Prop} (X : vX E cJ9_floorMod_7cf53 3 RJ9 wsJ9_floorMod_7cf53 (vT T) (vr 0 0)) (r : r_J9_floorMod_7cf53 E T Q) (h : w_J9_floorMod_7cf53_18 x_2 Q) : V E 0 0 18 [(2, .int x_2)] [] (cl_J9_floorMod_7cf53 T) := by
  unfold w_J9_floorMod_7cf53_18 at h
  refine v_iload_n X 0 dJ9_floorMod_7cf53_18 rfl rfl ?_
  exact r _ _ _ () _ dJ9_floorMod_7cf53_19 h rfl
set_option maxHeartbeats 4000000 in
set_option maxRecDepth 100000 in
theorem c_J9_floorMod_7cf53 {l : Launch} {D : va_G} {T : Nat → ClassId} {x_0 : Int32} {x_1 : Int32} {Q : Int32 → Prop} (h : w_J9_floorMod_7cf53 x_0 x_1 Q) : vCi l D (vT T) yJ9_floorMod_7cf53 wsJ9_floorMod_7cf53 (vr 0 0) [.int x_0, .int x_1] (cl_J9_floorMod_7cf53 T) (fun v (u : Unit) => Q v) (fun (u : Unit) => (cl_J9_floorMod_7cf53 T)) := by
  refine vC_iF (cc := cJ9_floorMod_7cf53) (nL := 3) (by decide +kernel) rfl ⟨rfl, rfl⟩ (Nat.le_of_ble_eq_true rfl) rfl ?_
  intro E el eD X r
  unfold w_J9_floorMod_7cf53 at h
  refine v_iload_n X 0 dJ9_floorMod_7cf53_0 rfl rfl ?_
  refine v_iload_n X 1 dJ9_floorMod_7cf53_1 rfl rfl ?_
  refine v_irem X dJ9_floorMod_7cf53_2 h.1 ?_
  replace h := h.2
  refine v_istore_n X (lv' := [(2, .int (vrem x_0 x_1)), (0, .int x_0), (1, .int x_1)]) dJ9_floorMod_7cf53_3 rfl (by decide) rfl ?_
  refine v_iload_n X 1 dJ9_floorMod_7cf53_4 rfl rfl ?_
  refine v_iload_n X 2 dJ9_floorMod_7cf53_5 rfl rfl ?_
  refine v_ixor X dJ9_floorMod_7cf53_6 ?_
  refine v_if_ge X (tgt := 18) dJ9_floorMod_7cf53_7 (by decide) (fun c_7 => ?_) (fun c_7 => ?_)
  · replace h := h.1 c_7
    refine v_lv (lv' := [(2, .int (vrem x_0 x_1))]) [0] rfl ?_
    exact k_J9_floorMod_7cf53_18 X r h
  · replace h := h.2 c_7
    refine v_iload_n X 0 dJ9_floorMod_7cf53_10 rfl rfl ?_
    refine v_if_eq X (tgt := 18) dJ9_floorMod_7cf53_11 (by decide) (fun c_11 => ?_) (fun c_11 => ?_)
    · replace h := h.1 c_11
      refine v_lv (lv' := [(2, .int (vrem x_0 x_1))]) [0] rfl ?_
      exact k_J9_floorMod_7cf53_18 X r h
    · replace h := h.2 c_11
      refine v_iload_n X 0 dJ9_floorMod_7cf53_14 rfl rfl ?_
      refine v_iload_n X 2 dJ9_floorMod_7cf53_15 rfl rfl ?_
      refine v_iadd X dJ9_floorMod_7cf53_16 ?_
      exact r _ _ _ () _ dJ9_floorMod_7cf53_17 h rfl