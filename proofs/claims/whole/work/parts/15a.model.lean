-- X7_in
abbrev cl_X7_in (T : Nat → ClassId) : va_W := []
abbrev r_X7_in (E : vE) (T : Nat → ClassId) (Q : Int32 → Prop) : Prop := vRz E cX7_in (fun v (u : Unit) => Q v) (fun (u : Unit) => (cl_X7_in T))
def w_X7_in_15 (t_0 : Int32) (Q : Int32 → Prop) : Prop := (vz t_0 ∧ Q t_0)
def w_X7_in_14 (Q : Int32 → Prop) : Prop := (w_X7_in_15 (0 : Int32) Q)
def w_X7_in (x_0 : Int32) (x_1 : Int32) (x_2 : Int32) (Q : Int32 → Prop) : Prop := ((x_0 < x_1 → (w_X7_in_14 Q)) ∧ (¬ x_0 < x_1 → ((x_2 < x_0 → (w_X7_in_14 Q)) ∧ (¬ x_2 < x_0 → (w_X7_in_15 (1 : Int32) Q)))))
-- X7_in
set_option maxHeartbeats 4000000 in
set_option maxRecDepth 100000 in
theorem k_X7_in_15 {E : vE} {T : Nat → ClassId} {t_0 : Int32} {Q : Int32 → Prop} (X : vX E cX7_in 3 RX7 wsX7_in (vT T) (vr 0 0)) (r : r_X7_in E T Q) (h : w_X7_in_15 t_0 Q) : V E 0 0 15 [] [.int t_0] (cl_X7_in T) := by
  unfold w_X7_in_15 at h
  exact r _ _ _ () _ dX7_in_15 h.1 h.2 rfl
set_option maxHeartbeats 4000000 in
set_option maxRecDepth 100000 in
theorem k_X7_in_14 {E : vE} {T : Nat → ClassId} {Q : Int32 → Prop} (X : vX E cX7_in 3 RX7 wsX7_in (vT T) (vr 0 0)) (r : r_X7_in E T Q) (h : w_X7_in_14 Q) : V E 0 0 14 [] [] (cl_X7_in T) := by
  unfold w_X7_in_14 at h
  refine v_iconst X dX7_in_14 (v := (0 : Int32)) (by decide) ?_
  exact k_X7_in_15 X r h
set_option maxHeartbeats 4000000 in
set_option maxRecDepth 100000 in
theorem c_X7_in {l : Launch} {D : va_G} {T : Nat → ClassId} {x_0 : Int32} {x_1 : Int32} {x_2 : Int32} {Q : Int32 → Prop} (h : w_X7_in x_0 x_1 x_2 Q) : vCi l D (vT T) yX7_in wsX7_in (vr 0 0) [.int x_0, .int x_1, .int x_2] (cl_X7_in T) (fun v (u : Unit) => Q v) (fun (u : Unit) => (cl_X7_in T)) := by
  refine vC_z (cc := cX7_in) (nL := 3) (by decide +kernel) rfl ⟨rfl, rfl⟩ (Nat.le_of_ble_eq_true rfl) rfl ?_
  intro E el eD X r
  unfold w_X7_in at h
  refine v_iload_n X 0 dX7_in_0 rfl rfl ?_
  refine v_iload_n X 1 dX7_in_1 rfl rfl ?_
  refine v_icmp_lt X (tgt := 14) dX7_in_2 (by decide) (fun c_2 => ?_) (fun c_2 => ?_)
  · replace h := h.1 c_2
    refine v_lv (lv' := []) [] rfl ?_
    exact k_X7_in_14 X r h
  · replace h := h.2 c_2
    refine v_iload_n X 0 dX7_in_5 rfl rfl ?_
    refine v_iload_n X 2 dX7_in_6 rfl rfl ?_
    refine v_icmp_gt X (tgt := 14) dX7_in_7 (by decide) (fun c_7 => ?_) (fun c_7 => ?_)
    · replace h := h.1 c_7
      refine v_lv (lv' := []) [] rfl ?_
      exact k_X7_in_14 X r h
    · replace h := h.2 c_7
      refine v_iconst X dX7_in_10 (v := (1 : Int32)) (by decide) ?_
      refine v_goto X (tgt := 15) dX7_in_11 (by decide) ?_
      refine v_lv (lv' := []) [] rfl ?_
      exact k_X7_in_15 X r h
-- X7_meets
abbrev cl_X7_meets (T : Nat → ClassId) (o_p0 : Nat) (a_p0 : Nat → Nat) (s_p0_finding : Int32) (s_p0_asked : Int64) (s_p0_newPoints : Int32) (s_p0_newLines : Int32) (s_p0_faultAt : Int64) (s_p0_tries : Int32) (s_p0_things : Int32) (s_p0_goals : Int32) (s_p0_level : Int32) (s_p0_findings : Nat → Int32) : va_W := [vO o_p0 4 [.int s_p0_finding, .ref (a_p0 1), .long s_p0_asked, .ref (a_p0 3), .ref (a_p0 4), .ref (a_p0 5), .ref (a_p0 6), .ref (a_p0 7), .int s_p0_newPoints, .int s_p0_newLines, .ref (a_p0 10), .ref (a_p0 11), .long s_p0_faultAt, .int s_p0_tries, .int s_p0_things, .int s_p0_goals, .ref (a_p0 16), .ref (a_p0 17), .ref (a_p0 18), .ref (a_p0 19), .ref (a_p0 20), .ref (a_p0 21), .int s_p0_level, .ref (a_p0 23), .ref (a_p0 24), .ref (a_p0 25), .ref (a_p0 26), .ref (a_p0 27), .ref (a_p0 28), .ref (a_p0 29), .ref (a_p0 30), .ref (a_p0 31), .ref (a_p0 32)], vI T (a_p0 1) 6 s_p0_findings]
abbrev r_X7_meets (E : vE) (T : Nat → ClassId) (o_p0 : Nat) (a_p0 : Nat → Nat) (s_p0_asked : Int64) (s_p0_newPoints : Int32) (s_p0_newLines : Int32) (s_p0_faultAt : Int64) (s_p0_tries : Int32) (s_p0_things : Int32) (s_p0_goals : Int32) (s_p0_level : Int32) (Q : Int32 → (Int32) → (Nat → Int32) → Prop) : Prop := vRi E cX7_meets (fun v (u : (Int32) × (Nat → Int32)) => Q v u.1 u.2) (fun (u : (Int32) × (Nat → Int32)) => (cl_X7_meets T o_p0 a_p0 u.1 s_p0_asked s_p0_newPoints s_p0_newLines s_p0_faultAt s_p0_tries s_p0_things s_p0_goals s_p0_level u.2))
def w_X7_meets (x_1 : Int32) (s_p0_finding : Int32) (s_p0_findings : Nat → Int32) (Q : Int32 → (Int32) → (Nat → Int32) → Prop) : Prop := (vp_in x_1 6 ∧ (vp_in x_1 6 ∧ (Q (-3 : Int32) x_1 (upd s_p0_findings (x_1).toNatClampNeg ((s_p0_findings (x_1).toNatClampNeg) + (1 : Int32))))))
-- X7_meets
theorem iX7_meets_X7 : ∀ w ∈ wsX70, w ∈ wsX7_meets := by decide +kernel
set_option maxHeartbeats 4000000 in
set_option maxRecDepth 100000 in
theorem c_X7_meets {l : Launch} {D : va_G} {T : Nat → ClassId} {o_p0 : Nat} {a_p0 : Nat → Nat} {s_p0_finding : Int32} {s_p0_asked : Int64} {s_p0_newPoints : Int32} {s_p0_newLines : Int32} {s_p0_faultAt : Int64} {s_p0_tries : Int32} {s_p0_things : Int32} {s_p0_goals : Int32} {s_p0_level : Int32} {s_p0_findings : Nat → Int32} {x_1 : Int32} {Q : Int32 → (Int32) → (Nat → Int32) → Prop} (h : w_X7_meets x_1 s_p0_finding s_p0_findings Q) : vCi l D (vT T) yX7_meets wsX7_meets (vr 0 0) [.ref o_p0, .int x_1] (cl_X7_meets T o_p0 a_p0 s_p0_finding s_p0_asked s_p0_newPoints s_p0_newLines s_p0_faultAt s_p0_tries s_p0_things s_p0_goals s_p0_level s_p0_findings) (fun v (u : (Int32) × (Nat → Int32)) => Q v u.1 u.2) (fun (u : (Int32) × (Nat → Int32)) => (cl_X7_meets T o_p0 a_p0 u.1 s_p0_asked s_p0_newPoints s_p0_newLines s_p0_faultAt s_p0_tries s_p0_things s_p0_goals s_p0_level u.2)) := by
  refine vC_i (cc := cX7_meets) (nL := 2) (by decide +kernel) rfl ⟨rfl, rfl⟩ (Nat.le_of_ble_eq_true rfl) rfl ?_
  intro E el eD X r
  unfold w_X7_meets at h
  refine v_aload_n X 0 dX7_meets_0 rfl rfl ?_
  refine v_iload_n X 1 dX7_meets_1 rfl rfl ?_
  refine v_put X (ws' := (cl_X7_meets T o_p0 a_p0 x_1 s_p0_asked s_p0_newPoints s_p0_newLines s_p0_faultAt s_p0_tries s_p0_things s_p0_goals s_p0_level s_p0_findings)) 0 0 (F := TX7) (N := 33) iX7_meets_X7 rfl tyX7 tyX7_ok nmX7 rfl (by decide) (List.mem_of_getElem? (i := 1) rfl) rfl rfl rfl rfl rfl (Nat.le_of_ble_eq_true rfl) rfl dX7_meets_2 ?_
  refine v_aload_n X 0 dX7_meets_5 rfl rfl ?_
  refine v_get X 0 1 (F := TX7) (N := 33) iX7_meets_X7 rfl rfl (by decide) (List.mem_of_getElem? (i := 2) rfl) rfl rfl dX7_meets_6 ?_
  refine v_iload_n X 1 dX7_meets_9 rfl rfl ?_
  refine v_dup2_11 X dX7_meets_10 rfl rfl ?_
  refine v_iald X 1 0 rfl rfl h.1 dX7_meets_11 ?_
  replace h := h.2
  refine v_iconst X dX7_meets_12 (v := (1 : Int32)) (by decide) ?_
  refine v_iadd X dX7_meets_13 ?_
  refine v_iast X (ws' := (cl_X7_meets T o_p0 a_p0 x_1 s_p0_asked s_p0_newPoints s_p0_newLines s_p0_faultAt s_p0_tries s_p0_things s_p0_goals s_p0_level (upd s_p0_findings (x_1).toNatClampNeg ((s_p0_findings (x_1).toNatClampNeg) + (1 : Int32))))) 1 0 rfl rfl h.1 rfl dX7_meets_14 ?_
  replace h := h.2
  refine v_bipush X dX7_meets_15 (v := (-3 : Int32)) (by decide) ?_
  exact r _ _ _ (x_1, (upd s_p0_findings (x_1).toNatClampNeg ((s_p0_findings (x_1).toNatClampNeg) + (1 : Int32)))) _ dX7_meets_17 h rfl
-- X7_ask
abbrev cl_X7_ask (T : Nat → ClassId) (o_p0 : Nat) (a_p0 : Nat → Nat) (s_p0_finding : Int32) (s_p0_asked : Int64) (s_p0_newPoints : Int32) (s_p0_newLines : Int32) (s_p0_faultAt : Int64) (s_p0_tries : Int32) (s_p0_things : Int32) (s_p0_goals : Int32) (s_p0_level : Int32) : va_W := [vO o_p0 4 [.int s_p0_finding, .ref (a_p0 1), .long s_p0_asked, .ref (a_p0 3), .ref (a_p0 4), .ref (a_p0 5), .ref (a_p0 6), .ref (a_p0 7), .int s_p0_newPoints, .int s_p0_newLines, .ref (a_p0 10), .ref (a_p0 11), .long s_p0_faultAt, .int s_p0_tries, .int s_p0_things, .int s_p0_goals, .ref (a_p0 16), .ref (a_p0 17), .ref (a_p0 18), .ref (a_p0 19), .ref (a_p0 20), .ref (a_p0 21), .int s_p0_level, .ref (a_p0 23), .ref (a_p0 24), .ref (a_p0 25), .ref (a_p0 26), .ref (a_p0 27), .ref (a_p0 28), .ref (a_p0 29), .ref (a_p0 30), .ref (a_p0 31), .ref (a_p0 32)]]
abbrev r_X7_ask (E : vE) (T : Nat → ClassId) (o_p0 : Nat) (a_p0 : Nat → Nat) (s_p0_finding : Int32) (s_p0_newPoints : Int32) (s_p0_newLines : Int32) (s_p0_faultAt : Int64) (s_p0_tries : Int32) (s_p0_things : Int32) (s_p0_goals : Int32) (s_p0_level : Int32) (Q : Int32 → (Int64) → Prop) : Prop := vRi E cX7_ask (fun v (u : (Int64)) => Q v u) (fun (u : (Int64)) => (cl_X7_ask T o_p0 a_p0 s_p0_finding u s_p0_newPoints s_p0_newLines s_p0_faultAt s_p0_tries s_p0_things s_p0_goals s_p0_level))
def w_X7_ask (x_1 : Int64) (x_3 : Int32) (s_p0_asked : Int64) (Q : Int32 → (Int64) → Prop) : Prop := (Q x_3 x_1)
-- X7_ask
theorem iX7_ask_X7 : ∀ w ∈ wsX70, w ∈ wsX7_ask := by decide +kernel
set_option maxHeartbeats 4000000 in
set_option maxRecDepth 100000 in
theorem c_X7_ask {l : Launch} {D : va_G} {T : Nat → ClassId} {o_p0 : Nat} {a_p0 : Nat → Nat} {s_p0_finding : Int32} {s_p0_asked : Int64} {s_p0_newPoints : Int32} {s_p0_newLines : Int32} {s_p0_faultAt : Int64} {s_p0_tries : Int32} {s_p0_things : Int32} {s_p0_goals : Int32} {s_p0_level : Int32} {x_1 : Int64} {x_3 : Int32} {Q : Int32 → (Int64) → Prop} (h : w_X7_ask x_1 x_3 s_p0_asked Q) : vCi l D (vT T) yX7_ask wsX7_ask (vr 0 0) [.ref o_p0, .long x_1, .int x_3] (cl_X7_ask T o_p0 a_p0 s_p0_finding s_p0_asked s_p0_newPoints s_p0_newLines s_p0_faultAt s_p0_tries s_p0_things s_p0_goals s_p0_level) (fun v (u : (Int64)) => Q v u) (fun (u : (Int64)) => (cl_X7_ask T o_p0 a_p0 s_p0_finding u s_p0_newPoints s_p0_newLines s_p0_faultAt s_p0_tries s_p0_things s_p0_goals s_p0_level)) := by
  refine vC_i (cc := cX7_ask) (nL := 4) (by decide +kernel) rfl ⟨rfl, rfl⟩ (Nat.le_of_ble_eq_true rfl) rfl ?_
  intro E el eD X r
  unfold w_X7_ask at h
  refine v_aload_n X 0 dX7_ask_0 rfl rfl ?_
  refine v_lload_n X 1 dX7_ask_1 rfl rfl ?_
  refine v_put X (ws' := (cl_X7_ask T o_p0 a_p0 s_p0_finding x_1 s_p0_newPoints s_p0_newLines s_p0_faultAt s_p0_tries s_p0_things s_p0_goals s_p0_level)) 0 2 (F := TX7) (N := 33) iX7_ask_X7 rfl tyX7 tyX7_ok nmX7 rfl (by decide) (List.mem_of_getElem? (i := 1) rfl) rfl rfl rfl rfl rfl (Nat.le_of_ble_eq_true rfl) rfl dX7_ask_2 ?_
  refine v_iload_n X 2 dX7_ask_5 rfl rfl ?_
  exact r _ _ _ (x_1) _ dX7_ask_6 h rfl
-- X7_bits
abbrev cl_X7_bits (T : Nat → ClassId) : va_W := []
abbrev r_X7_bits (E : vE) (T : Nat → ClassId) (Q : Int32 → Prop) : Prop := vRi E cX7_bits (fun v (u : Unit) => Q v) (fun (u : Unit) => (cl_X7_bits T))
def w_X7_bits_4s (x_0 : Int64) (Q : Int32 → Prop) (K_4 : (Int32) → (Int32) → Prop) (x_2 : Int32) (x_3 : Int32) : Prop := (((45 : Int32) ≤ x_3 → (Q x_2)) ∧ (¬ (45 : Int32) ≤ x_3 → (K_4 (x_2 + (((vshr x_0 x_3) &&& (1 : Int64))).toInt32) (x_3 + (1 : Int32)))))
def w_X7_bits_4 (x_0 : Int64) (Q : Int32 → Prop) : Nat → (Int32) → (Int32) → Prop
  | 0 => fun _ _ => False
  | n_ + 1 => w_X7_bits_4s x_0 Q (w_X7_bits_4 x_0 Q n_)
def w_X7_bits (x_0 : Int64) (Q : Int32 → Prop) : Prop := (∃ n_, w_X7_bits_4 x_0 Q n_ (0 : Int32) (0 : Int32))
-- X7_bits
set_option maxHeartbeats 4000000 in
set_option maxRecDepth 100000 in
theorem k_X7_bits_4 {E : vE} {T : Nat → ClassId} {x_0 : Int64} {Q : Int32 → Prop} (X : vX E cX7_bits 4 RX7 wsX7_bits (vT T) (vr 0 0)) (r : r_X7_bits E T Q) : ∀ (n_ : Nat) (x_2 : Int32) (x_3 : Int32), w_X7_bits_4 x_0 Q n_ x_2 x_3 → V E 0 0 4 [(0, .long x_0), (2, .int x_2), (3, .int x_3)] [] (cl_X7_bits T) := by
  intro n_
  induction n_ with
  | zero => intro x_2 x_3 h; exact h.elim
  | succ n_ hK_4 =>
    intro x_2 x_3 h
    replace h : w_X7_bits_4s x_0 Q (w_X7_bits_4 x_0 Q n_) x_2 x_3 := h
    unfold w_X7_bits_4s at h
    refine v_iload_n X 2 dX7_bits_4 rfl rfl ?_
    refine v_bipush X dX7_bits_5 (v := (45 : Int32)) (by decide) ?_
    refine v_icmp_ge X (tgt := 25) dX7_bits_7 (by decide) (fun c_7 => ?_) (fun c_7 => ?_)
    · replace h := h.1 c_7
      refine v_iload_n X 1 dX7_bits_25 rfl rfl ?_
      exact r _ _ _ () _ dX7_bits_26 h rfl
    · replace h := h.2 c_7
      refine v_iload_n X 1 dX7_bits_10 rfl rfl ?_
      refine v_lload_n X 0 dX7_bits_11 rfl rfl ?_
      refine v_iload_n X 2 dX7_bits_12 rfl rfl ?_
      refine v_lshr X dX7_bits_13 ?_
      refine v_lconst X dX7_bits_14 (v := (1 : Int64)) (by decide) ?_
      refine v_land X dX7_bits_15 ?_
      refine v_l2i X dX7_bits_16 ?_
      refine v_iadd X dX7_bits_17 ?_
      refine v_istore_n X (lv' := [(2, .int (x_2 + (((vshr x_0 x_3) &&& (1 : Int64))).toInt32)), (0, .long x_0), (3, .int x_3)]) dX7_bits_18 rfl (by decide) rfl ?_
      refine v_iinc X (v := (x_3 + (1 : Int32))) (lv' := [(3, .int (x_3 + (1 : Int32))), (2, .int (x_2 + (((vshr x_0 x_3) &&& (1 : Int64))).toInt32)), (0, .long x_0)]) 2 dX7_bits_19 rfl rfl (by decide) rfl ?_
      refine v_goto X (tgt := 4) dX7_bits_22 (by decide) ?_
      refine v_lv (lv' := [(0, .long x_0), (2, .int (x_2 + (((vshr x_0 x_3) &&& (1 : Int64))).toInt32)), (3, .int (x_3 + (1 : Int32)))]) [2, 1, 0] rfl ?_
      exact hK_4 _ _ h
set_option maxHeartbeats 4000000 in
set_option maxRecDepth 100000 in
theorem c_X7_bits {l : Launch} {D : va_G} {T : Nat → ClassId} {x_0 : Int64} {Q : Int32 → Prop} (h : w_X7_bits x_0 Q) : vCi l D (vT T) yX7_bits wsX7_bits (vr 0 0) [.long x_0] (cl_X7_bits T) (fun v (u : Unit) => Q v) (fun (u : Unit) => (cl_X7_bits T)) := by
  refine vC_i (cc := cX7_bits) (nL := 4) (by decide +kernel) rfl ⟨rfl, rfl⟩ (Nat.le_of_ble_eq_true rfl) rfl ?_
  intro E el eD X r
  unfold w_X7_bits at h
  refine v_iconst X dX7_bits_0 (v := (0 : Int32)) (by decide) ?_
  refine v_istore_n X (lv' := [(2, .int (0 : Int32)), (0, .long x_0)]) dX7_bits_1 rfl (by decide) rfl ?_
  refine v_iconst X dX7_bits_2 (v := (0 : Int32)) (by decide) ?_
  refine v_istore_n X (lv' := [(3, .int (0 : Int32)), (2, .int (0 : Int32)), (0, .long x_0)]) dX7_bits_3 rfl (by decide) rfl ?_
  refine v_lv (lv' := [(0, .long x_0), (2, .int (0 : Int32)), (3, .int (0 : Int32))]) [2, 1, 0] rfl ?_
  obtain ⟨n_, h⟩ := h
  exact k_X7_bits_4 X r n_ _ _ h
-- X7_has
abbrev cl_X7_has (T : Nat → ClassId) : va_W := []
abbrev r_X7_has (E : vE) (T : Nat → ClassId) (Q : Int32 → Prop) : Prop := vRz E cX7_has (fun v (u : Unit) => Q v) (fun (u : Unit) => (cl_X7_has T))
def w_X7_has_15 (t_0 : Int32) (Q : Int32 → Prop) : Prop := (vz t_0 ∧ Q t_0)
def w_X7_has (x_0 : Int64) (x_2 : Int32) (Q : Int32 → Prop) : Prop := ((¬ (lg_cmp ((vshr x_0 x_2) &&& (1 : Int64)) (1 : Int64)) = 0 → (w_X7_has_15 (0 : Int32) Q)) ∧ ((lg_cmp ((vshr x_0 x_2) &&& (1 : Int64)) (1 : Int64)) = 0 → (w_X7_has_15 (1 : Int32) Q)))
-- X7_has
set_option maxHeartbeats 4000000 in
set_option maxRecDepth 100000 in
theorem k_X7_has_15 {E : vE} {T : Nat → ClassId} {t_0 : Int32} {Q : Int32 → Prop} (X : vX E cX7_has 3 RX7 wsX7_has (vT T) (vr 0 0)) (r : r_X7_has E T Q) (h : w_X7_has_15 t_0 Q) : V E 0 0 15 [] [.int t_0] (cl_X7_has T) := by
  unfold w_X7_has_15 at h
  exact r _ _ _ () _ dX7_has_15 h.1 h.2 rfl
set_option maxHeartbeats 4000000 in
set_option maxRecDepth 100000 in
theorem c_X7_has {l : Launch} {D : va_G} {T : Nat → ClassId} {x_0 : Int64} {x_2 : Int32} {Q : Int32 → Prop} (h : w_X7_has x_0 x_2 Q) : vCi l D (vT T) yX7_has wsX7_has (vr 0 0) [.long x_0, .int x_2] (cl_X7_has T) (fun v (u : Unit) => Q v) (fun (u : Unit) => (cl_X7_has T)) := by
  refine vC_z (cc := cX7_has) (nL := 3) (by decide +kernel) rfl ⟨rfl, rfl⟩ (Nat.le_of_ble_eq_true rfl) rfl ?_
  intro E el eD X r
  unfold w_X7_has at h
  refine v_lload_n X 0 dX7_has_0 rfl rfl ?_
  refine v_iload_n X 1 dX7_has_1 rfl rfl ?_
  refine v_lshr X dX7_has_2 ?_
  refine v_lconst X dX7_has_3 (v := (1 : Int64)) (by decide) ?_
  refine v_land X dX7_has_4 ?_
  refine v_lconst X dX7_has_5 (v := (1 : Int64)) (by decide) ?_
  refine v_lcmp X dX7_has_6 ?_
  refine v_if_ne X (tgt := 14) dX7_has_7 (by decide) (fun c_7 => ?_) (fun c_7 => ?_)
  · replace h := h.1 c_7
    refine v_iconst X dX7_has_14 (v := (0 : Int32)) (by decide) ?_
    refine v_lv (lv' := []) [] rfl ?_
    exact k_X7_has_15 X r h
  · replace h := h.2 c_7
    refine v_iconst X dX7_has_10 (v := (1 : Int32)) (by decide) ?_
    refine v_goto X (tgt := 15) dX7_has_11 (by decide) ?_
    refine v_lv (lv' := []) [] rfl ?_
    exact k_X7_has_15 X r h
-- X7_isNumber
abbrev cl_X7_isNumber (T : Nat → ClassId) : va_W := []
abbrev r_X7_isNumber (E : vE) (T : Nat → ClassId) (Q : Int32 → Prop) : Prop := vRz E cX7_isNumber (fun v (u : Unit) => Q v) (fun (u : Unit) => (cl_X7_isNumber T))
def w_X7_isNumber (x_0 : Int32) (Q : Int32 → Prop) : Prop := (w_X7_in x_0 (0 : Int32) (5 : Int32) (fun (r_3 : Int32) => (vz r_3 ∧ Q r_3)))
-- X7_isNumber
set_option maxHeartbeats 4000000 in
set_option maxRecDepth 100000 in
theorem c_X7_isNumber {l : Launch} {D : va_G} {T : Nat → ClassId} {x_0 : Int32} {Q : Int32 → Prop} (h : w_X7_isNumber x_0 Q) : vCi l D (vT T) yX7_isNumber wsX7_isNumber (vr 1 22) [.int x_0] (cl_X7_isNumber T) (fun v (u : Unit) => Q v) (fun (u : Unit) => (cl_X7_isNumber T)) := by
  refine vC_z (cc := cX7_isNumber) (nL := 1) (by decide +kernel) rfl ⟨rfl, rfl⟩ (Nat.le_of_ble_eq_true rfl) rfl ?_
  intro E el eD X r
  unfold w_X7_isNumber at h
  refine v_iload_n X 0 dX7_isNumber_0 rfl rfl ?_
  refine v_iconst X dX7_isNumber_1 (v := (0 : Int32)) (by decide) ?_
  refine v_iconst X dX7_isNumber_2 (v := (5 : Int32)) (by decide) ?_
  refine v_callSi0 X (As := [.int x_0, .int (0 : Int32), .int (5 : Int32)]) (rest := []) 3 (c_X7_in (l := vl E) (D := vD E) (T := T) (x_0 := x_0) (x_1 := (0 : Int32)) (x_2 := (5 : Int32)) h) gX7_isNumber_X7_in rfl rfl (by decide +kernel) ⟨Nat.zero_le _, Nat.zero_le _⟩ ⟨rfl, rfl, by decide, by decide⟩ (Nat.le_of_ble_eq_true rfl) rfl dX7_isNumber_3 (fun r_3 h => ?_)
  exact r _ _ _ () _ dX7_isNumber_6 h.1 h.2 rfl
-- X7_looked
abbrev cl_X7_looked (T : Nat → ClassId) (o_p0 : Nat) (a_p0 : Nat → Nat) (s_p0_finding : Int32) (s_p0_asked : Int64) (s_p0_newPoints : Int32) (s_p0_newLines : Int32) (s_p0_faultAt : Int64) (s_p0_tries : Int32) (s_p0_things : Int32) (s_p0_goals : Int32) (s_p0_level : Int32) (s_p0_findings : Nat → Int32) (s_p0_points : Nat → Int32) : va_W := [vO o_p0 4 [.int s_p0_finding, .ref (a_p0 1), .long s_p0_asked, .ref (a_p0 3), .ref (a_p0 4), .ref (a_p0 5), .ref (a_p0 6), .ref (a_p0 7), .int s_p0_newPoints, .int s_p0_newLines, .ref (a_p0 10), .ref (a_p0 11), .long s_p0_faultAt, .int s_p0_tries, .int s_p0_things, .int s_p0_goals, .ref (a_p0 16), .ref (a_p0 17), .ref (a_p0 18), .ref (a_p0 19), .ref (a_p0 20), .ref (a_p0 21), .int s_p0_level, .ref (a_p0 23), .ref (a_p0 24), .ref (a_p0 25), .ref (a_p0 26), .ref (a_p0 27), .ref (a_p0 28), .ref (a_p0 29), .ref (a_p0 30), .ref (a_p0 31), .ref (a_p0 32)], vI T (a_p0 1) 6 s_p0_findings, vI T (a_p0 3) 6 s_p0_points]
abbrev r_X7_looked (E : vE) (T : Nat → ClassId) (o_p0 : Nat) (a_p0 : Nat → Nat) (s_p0_asked : Int64) (s_p0_newPoints : Int32) (s_p0_newLines : Int32) (s_p0_faultAt : Int64) (s_p0_tries : Int32) (s_p0_things : Int32) (s_p0_goals : Int32) (s_p0_level : Int32) (s_p0_points : Nat → Int32) (Q : Int32 → (Int32) → (Nat → Int32) → Prop) : Prop := vRi E cX7_looked (fun v (u : (Int32) × (Nat → Int32)) => Q v u.1 u.2) (fun (u : (Int32) × (Nat → Int32)) => (cl_X7_looked T o_p0 a_p0 u.1 s_p0_asked s_p0_newPoints s_p0_newLines s_p0_faultAt s_p0_tries s_p0_things s_p0_goals s_p0_level u.2 s_p0_points))
def w_X7_looked_29 (t_0 : Int32) (s_p0_finding : Int32) (s_p0_findings : Nat → Int32) (s_p0_points : Nat → Int32) (Q : Int32 → (Int32) → (Nat → Int32) → Prop) : Prop := (Q t_0 s_p0_finding s_p0_findings)
def w_X7_looked (x_1 : Int32) (s_p0_finding : Int32) (s_p0_findings : Nat → Int32) (s_p0_points : Nat → Int32) (Q : Int32 → (Int32) → (Nat → Int32) → Prop) : Prop := (w_X7_isNumber x_1 (fun (r_1 : Int32) => ((¬ r_1 = 0 → (vp_in x_1 6 ∧ ((¬ (s_p0_points (x_1).toNatClampNeg) = 0 → (w_X7_looked_29 (0 : Int32) s_p0_finding s_p0_findings s_p0_points Q)) ∧ ((s_p0_points (x_1).toNatClampNeg) = 0 → (w_X7_meets (1 : Int32) s_p0_finding s_p0_findings (fun (r_22 : Int32) (u_22_0 : Int32) (u_22_1 : Nat → Int32) => (w_X7_looked_29 r_22 u_22_0 u_22_1 s_p0_points Q))))))) ∧ (r_1 = 0 → (w_X7_looked_29 (-1 : Int32) s_p0_finding s_p0_findings s_p0_points Q)))))
-- X7_looked
theorem iX7_looked_X7 : ∀ w ∈ wsX70, w ∈ wsX7_looked := by decide +kernel
set_option maxHeartbeats 4000000 in
set_option maxRecDepth 100000 in
theorem k_X7_looked_29 {E : vE} {T : Nat → ClassId} {o_p0 : Nat} {a_p0 : Nat → Nat} {s_p0_finding : Int32} {s_p0_asked : Int64} {s_p0_newPoints : Int32} {s_p0_newLines : Int32} {s_p0_faultAt : Int64} {s_p0_tries : Int32} {s_p0_things : Int32} {s_p0_goals : Int32} {s_p0_level : Int32} {s_p0_findings : Nat → Int32} {s_p0_points : Nat → Int32} {t_0 : Int32} {Q : Int32 → (Int32) → (Nat → Int32) → Prop} (X : vX E cX7_looked 2 RX7 wsX7_looked (vT T) (vr 2 42)) (r : r_X7_looked E T o_p0 a_p0 s_p0_asked s_p0_newPoints s_p0_newLines s_p0_faultAt s_p0_tries s_p0_things s_p0_goals s_p0_level s_p0_points Q) (h : w_X7_looked_29 t_0 s_p0_finding s_p0_findings s_p0_points Q) : V E 0 0 29 [] [.int t_0] (cl_X7_looked T o_p0 a_p0 s_p0_finding s_p0_asked s_p0_newPoints s_p0_newLines s_p0_faultAt s_p0_tries s_p0_things s_p0_goals s_p0_level s_p0_findings s_p0_points) := by
  unfold w_X7_looked_29 at h
  exact r _ _ _ (s_p0_finding, s_p0_findings) _ dX7_looked_29 h rfl
set_option maxHeartbeats 4000000 in
set_option maxRecDepth 100000 in
theorem c_X7_looked {l : Launch} {D : va_G} {T : Nat → ClassId} {o_p0 : Nat} {a_p0 : Nat → Nat} {s_p0_finding : Int32} {s_p0_asked : Int64} {s_p0_newPoints : Int32} {s_p0_newLines : Int32} {s_p0_faultAt : Int64} {s_p0_tries : Int32} {s_p0_things : Int32} {s_p0_goals : Int32} {s_p0_level : Int32} {s_p0_findings : Nat → Int32} {s_p0_points : Nat → Int32} {x_1 : Int32} {Q : Int32 → (Int32) → (Nat → Int32) → Prop} (h : w_X7_looked x_1 s_p0_finding s_p0_findings s_p0_points Q) : vCi l D (vT T) yX7_looked wsX7_looked (vr 2 42) [.ref o_p0, .int x_1] (cl_X7_looked T o_p0 a_p0 s_p0_finding s_p0_asked s_p0_newPoints s_p0_newLines s_p0_faultAt s_p0_tries s_p0_things s_p0_goals s_p0_level s_p0_findings s_p0_points) (fun v (u : (Int32) × (Nat → Int32)) => Q v u.1 u.2) (fun (u : (Int32) × (Nat → Int32)) => (cl_X7_looked T o_p0 a_p0 u.1 s_p0_asked s_p0_newPoints s_p0_newLines s_p0_faultAt s_p0_tries s_p0_things s_p0_goals s_p0_level u.2 s_p0_points)) := by
  refine vC_i (cc := cX7_looked) (nL := 2) (by decide +kernel) rfl ⟨rfl, rfl⟩ (Nat.le_of_ble_eq_true rfl) rfl ?_
  intro E el eD X r
  unfold w_X7_looked at h
  refine v_iload_n X 1 dX7_looked_0 rfl rfl ?_
  refine v_callSi0 X (As := [.int x_1]) (rest := []) 1 (c_X7_isNumber (l := vl E) (D := vD E) (T := T) (x_0 := x_1) h) gX7_looked_X7_isNumber rfl rfl (by decide +kernel) ⟨Nat.zero_le _, Nat.zero_le _⟩ ⟨rfl, rfl, by decide, by decide⟩ (Nat.le_of_ble_eq_true rfl) rfl dX7_looked_1 (fun r_1 h => ?_)
  refine v_if_ne X (tgt := 11) dX7_looked_4 (by decide) (fun c_4 => ?_) (fun c_4 => ?_)
  · replace h := h.1 c_4
    refine v_aload_n X 0 dX7_looked_11 rfl rfl ?_
    refine v_get X 0 3 (F := TX7) (N := 33) iX7_looked_X7 rfl rfl (by decide) (List.mem_of_getElem? (i := 1) rfl) rfl rfl dX7_looked_12 ?_
    refine v_iload_n X 1 dX7_looked_15 rfl rfl ?_
    refine v_iald X 2 0 rfl rfl h.1 dX7_looked_16 ?_
    replace h := h.2
    refine v_if_ne X (tgt := 28) dX7_looked_17 (by decide) (fun c_17 => ?_) (fun c_17 => ?_)
    · replace h := h.1 c_17
      refine v_iconst X dX7_looked_28 (v := (0 : Int32)) (by decide) ?_
      refine v_lv (lv' := []) [] rfl ?_
      exact k_X7_looked_29 X r h
    · replace h := h.2 c_17
      refine v_aload_n X 0 dX7_looked_20 rfl rfl ?_
      refine v_iconst X dX7_looked_21 (v := (1 : Int32)) (by decide) ?_
      refine v_callVi X (As := [.int (1 : Int32)]) (rest := []) 1 0 (c_X7_meets (l := vl E) (D := vD E) (T := T) (o_p0 := o_p0) (a_p0 := a_p0) (s_p0_finding := s_p0_finding) (s_p0_asked := s_p0_asked) (s_p0_newPoints := s_p0_newPoints) (s_p0_newLines := s_p0_newLines) (s_p0_faultAt := s_p0_faultAt) (s_p0_tries := s_p0_tries) (s_p0_things := s_p0_things) (s_p0_goals := s_p0_goals) (s_p0_level := s_p0_level) (s_p0_findings := s_p0_findings) (x_1 := (1 : Int32)) h) gX7_looked_X7_meets rfl rfl (by decide +kernel) ⟨Nat.zero_le _, Nat.zero_le _⟩ ⟨rfl, rfl, by decide, by decide⟩ (Nat.le_of_ble_eq_true rfl) rfl rfl (wr := [vI T (a_p0 3) 6 s_p0_points]) [0, 1] [2] rfl rfl rfl rfl (by decide) rfl dX7_looked_22 (fun r_22 u h => ?_)
      obtain ⟨u_22_0, u_22_1⟩ := u
      dsimp only at h
      refine v_ws (ws' := (cl_X7_looked T o_p0 a_p0 u_22_0 s_p0_asked s_p0_newPoints s_p0_newLines s_p0_faultAt s_p0_tries s_p0_things s_p0_goals s_p0_level u_22_1 s_p0_points)) [1, 2, 0] rfl rfl ?_
      refine v_goto X (tgt := 29) dX7_looked_25 (by decide) ?_
      refine v_lv (lv' := []) [] rfl ?_
      exact k_X7_looked_29 X r h
  · replace h := h.2 c_4
    refine v_iconst X dX7_looked_7 (v := (-1 : Int32)) (by decide) ?_
    refine v_goto X (tgt := 29) dX7_looked_8 (by decide) ?_
    refine v_lv (lv' := []) [] rfl ?_
    exact k_X7_looked_29 X r h
-- X7_allOf
abbrev cl_X7_allOf (T : Nat → ClassId) (o_p0 : Nat) (a_p0 : Nat → Nat) (s_p0_finding : Int32) (s_p0_asked : Int64) (s_p0_newPoints : Int32) (s_p0_newLines : Int32) (s_p0_faultAt : Int64) (s_p0_tries : Int32) (s_p0_things : Int32) (s_p0_goals : Int32) (s_p0_level : Int32) (s_p0_points : Nat → Int32) : va_W := [vO o_p0 4 [.int s_p0_finding, .ref (a_p0 1), .long s_p0_asked, .ref (a_p0 3), .ref (a_p0 4), .ref (a_p0 5), .ref (a_p0 6), .ref (a_p0 7), .int s_p0_newPoints, .int s_p0_newLines, .ref (a_p0 10), .ref (a_p0 11), .long s_p0_faultAt, .int s_p0_tries, .int s_p0_things, .int s_p0_goals, .ref (a_p0 16), .ref (a_p0 17), .ref (a_p0 18), .ref (a_p0 19), .ref (a_p0 20), .ref (a_p0 21), .int s_p0_level, .ref (a_p0 23), .ref (a_p0 24), .ref (a_p0 25), .ref (a_p0 26), .ref (a_p0 27), .ref (a_p0 28), .ref (a_p0 29), .ref (a_p0 30), .ref (a_p0 31), .ref (a_p0 32)], vI T (a_p0 3) 6 s_p0_points]
abbrev r_X7_allOf (E : vE) (T : Nat → ClassId) (o_p0 : Nat) (a_p0 : Nat → Nat) (s_p0_finding : Int32) (s_p0_asked : Int64) (s_p0_newPoints : Int32) (s_p0_newLines : Int32) (s_p0_faultAt : Int64) (s_p0_tries : Int32) (s_p0_things : Int32) (s_p0_goals : Int32) (s_p0_level : Int32) (s_p0_points : Nat → Int32) (Q : Int64 → Prop) : Prop := vRl E cX7_allOf (fun v (u : Unit) => Q v) (fun (u : Unit) => (cl_X7_allOf T o_p0 a_p0 s_p0_finding s_p0_asked s_p0_newPoints s_p0_newLines s_p0_faultAt s_p0_tries s_p0_things s_p0_goals s_p0_level s_p0_points))
def w_X7_allOf (x_1 : Int32) (s_p0_points : Nat → Int32) (Q : Int64 → Prop) : Prop := (vp_in x_1 6 ∧ (Q ((vshl (1 : Int64) (s_p0_points (x_1).toNatClampNeg)) - (1 : Int64))))
-- X7_allOf
theorem iX7_allOf_X7 : ∀ w ∈ wsX70, w ∈ wsX7_allOf := by decide +kernel
set_option maxHeartbeats 4000000 in
set_option maxRecDepth 100000 in
theorem c_X7_allOf {l : Launch} {D : va_G} {T : Nat → ClassId} {o_p0 : Nat} {a_p0 : Nat → Nat} {s_p0_finding : Int32} {s_p0_asked : Int64} {s_p0_newPoints : Int32} {s_p0_newLines : Int32} {s_p0_faultAt : Int64} {s_p0_tries : Int32} {s_p0_things : Int32} {s_p0_goals : Int32} {s_p0_level : Int32} {s_p0_points : Nat → Int32} {x_1 : Int32} {Q : Int64 → Prop} (h : w_X7_allOf x_1 s_p0_points Q) : vCl l D (vT T) yX7_allOf wsX7_allOf (vr 0 0) [.ref o_p0, .int x_1] (cl_X7_allOf T o_p0 a_p0 s_p0_finding s_p0_asked s_p0_newPoints s_p0_newLines s_p0_faultAt s_p0_tries s_p0_things s_p0_goals s_p0_level s_p0_points) (fun v (u : Unit) => Q v) (fun (u : Unit) => (cl_X7_allOf T o_p0 a_p0 s_p0_finding s_p0_asked s_p0_newPoints s_p0_newLines s_p0_faultAt s_p0_tries s_p0_things s_p0_goals s_p0_level s_p0_points)) := by
  refine vC_l (cc := cX7_allOf) (nL := 2) (by decide +kernel) rfl ⟨rfl, rfl⟩ (Nat.le_of_ble_eq_true rfl) rfl ?_
  intro E el eD X r
  unfold w_X7_allOf at h
  refine v_lconst X dX7_allOf_0 (v := (1 : Int64)) (by decide) ?_
  refine v_aload_n X 0 dX7_allOf_1 rfl rfl ?_
  refine v_get X 0 3 (F := TX7) (N := 33) iX7_allOf_X7 rfl rfl (by decide) (List.mem_of_getElem? (i := 1) rfl) rfl rfl dX7_allOf_2 ?_
  refine v_iload_n X 1 dX7_allOf_5 rfl rfl ?_
  refine v_iald X 1 0 rfl rfl h.1 dX7_allOf_6 ?_
  replace h := h.2
  refine v_lshl X dX7_allOf_7 ?_
  refine v_lconst X dX7_allOf_8 (v := (1 : Int64)) (by decide) ?_
  refine v_lsub X dX7_allOf_9 ?_
  exact r _ _ _ () _ dX7_allOf_10 h rfl
-- X7_keep
abbrev cl_X7_keep (T : Nat → ClassId) (o_p0 : Nat) (a_p0 : Nat → Nat) (s_p0_finding : Int32) (s_p0_asked : Int64) (s_p0_newPoints : Int32) (s_p0_newLines : Int32) (s_p0_faultAt : Int64) (s_p0_tries : Int32) (s_p0_things : Int32) (s_p0_goals : Int32) (s_p0_level : Int32) (s_p0_kinds : Nat → Int32) (s_p0_lineCount : Nat → Int32) (s_p0_lines : Nat → Int64) (s_p0_marks : Nat → Int32) (s_p0_newRow : Nat → Int64) (s_p0_points : Nat → Int32) : va_W := [vO o_p0 4 [.int s_p0_finding, .ref (a_p0 1), .long s_p0_asked, .ref (a_p0 3), .ref (a_p0 4), .ref (a_p0 5), .ref (a_p0 6), .ref (a_p0 7), .int s_p0_newPoints, .int s_p0_newLines, .ref (a_p0 10), .ref (a_p0 11), .long s_p0_faultAt, .int s_p0_tries, .int s_p0_things, .int s_p0_goals, .ref (a_p0 16), .ref (a_p0 17), .ref (a_p0 18), .ref (a_p0 19), .ref (a_p0 20), .ref (a_p0 21), .int s_p0_level, .ref (a_p0 23), .ref (a_p0 24), .ref (a_p0 25), .ref (a_p0 26), .ref (a_p0 27), .ref (a_p0 28), .ref (a_p0 29), .ref (a_p0 30), .ref (a_p0 31), .ref (a_p0 32)], vI T (a_p0 5) 6 s_p0_kinds, vI T (a_p0 4) 6 s_p0_lineCount, vJ T (a_p0 7) 270 s_p0_lines, vI T (a_p0 6) 6 s_p0_marks, vJ T (a_p0 10) 120 s_p0_newRow, vI T (a_p0 3) 6 s_p0_points]
abbrev r_X7_keep (E : vE) (T : Nat → ClassId) (o_p0 : Nat) (a_p0 : Nat → Nat) (s_p0_finding : Int32) (s_p0_asked : Int64) (s_p0_newPoints : Int32) (s_p0_newLines : Int32) (s_p0_faultAt : Int64) (s_p0_tries : Int32) (s_p0_things : Int32) (s_p0_goals : Int32) (s_p0_level : Int32) (s_p0_newRow : Nat → Int64) (Q : Int32 → (Nat → Int32) → (Nat → Int32) → (Nat → Int64) → (Nat → Int32) → (Nat → Int32) → Prop) : Prop := vRi E cX7_keep (fun v (u : (Nat → Int32) × (Nat → Int32) × (Nat → Int64) × (Nat → Int32) × (Nat → Int32)) => Q v u.1 u.2.1 u.2.2.1 u.2.2.2.1 u.2.2.2.2) (fun (u : (Nat → Int32) × (Nat → Int32) × (Nat → Int64) × (Nat → Int32) × (Nat → Int32)) => (cl_X7_keep T o_p0 a_p0 s_p0_finding s_p0_asked s_p0_newPoints s_p0_newLines s_p0_faultAt s_p0_tries s_p0_things s_p0_goals s_p0_level u.1 u.2.1 u.2.2.1 u.2.2.2.1 s_p0_newRow u.2.2.2.2))
def w_X7_keep_37s (x_1 : Int32) (s_p0_newPoints : Int32) (s_p0_newLines : Int32) (s_p0_kinds : Nat → Int32) (s_p0_lineCount : Nat → Int32) (s_p0_marks : Nat → Int32) (s_p0_newRow : Nat → Int64) (s_p0_points : Nat → Int32) (Q : Int32 → (Nat → Int32) → (Nat → Int32) → (Nat → Int64) → (Nat → Int32) → (Nat → Int32) → Prop) (K_37 : (Int32) → (Nat → Int64) → Prop) (x_4 : Int32) (s_p0_lines : Nat → Int64) : Prop := ((s_p0_newLines ≤ x_4 → (Q s_p0_newPoints s_p0_kinds s_p0_lineCount s_p0_lines s_p0_marks s_p0_points)) ∧ (¬ s_p0_newLines ≤ x_4 → (vp_in x_4 120 ∧ (vp_in (((45 : Int32) * x_1) + x_4) 270 ∧ (K_37 (x_4 + (1 : Int32)) (vp_updL s_p0_lines ((((45 : Int32) * x_1) + x_4)).toNatClampNeg (s_p0_newRow (x_4).toNatClampNeg)))))))
def w_X7_keep_37 (x_1 : Int32) (s_p0_newPoints : Int32) (s_p0_newLines : Int32) (s_p0_kinds : Nat → Int32) (s_p0_lineCount : Nat → Int32) (s_p0_marks : Nat → Int32) (s_p0_newRow : Nat → Int64) (s_p0_points : Nat → Int32) (Q : Int32 → (Nat → Int32) → (Nat → Int32) → (Nat → Int64) → (Nat → Int32) → (Nat → Int32) → Prop) : Nat → (Int32) → (Nat → Int64) → Prop
  | 0 => fun _ _ => False
  | n_ + 1 => w_X7_keep_37s x_1 s_p0_newPoints s_p0_newLines s_p0_kinds s_p0_lineCount s_p0_marks s_p0_newRow s_p0_points Q (w_X7_keep_37 x_1 s_p0_newPoints s_p0_newLines s_p0_kinds s_p0_lineCount s_p0_marks s_p0_newRow s_p0_points Q n_)
def w_X7_keep (x_1 : Int32) (x_2 : Int32) (x_3 : Int32) (s_p0_newPoints : Int32) (s_p0_newLines : Int32) (s_p0_kinds : Nat → Int32) (s_p0_lineCount : Nat → Int32) (s_p0_lines : Nat → Int64) (s_p0_marks : Nat → Int32) (s_p0_newRow : Nat → Int64) (s_p0_points : Nat → Int32) (Q : Int32 → (Nat → Int32) → (Nat → Int32) → (Nat → Int64) → (Nat → Int32) → (Nat → Int32) → Prop) : Prop := (vp_in x_1 6 ∧ (vp_in x_1 6 ∧ (vp_in x_1 6 ∧ (vp_in x_1 6 ∧ (∃ n_, w_X7_keep_37 x_1 s_p0_newPoints s_p0_newLines (upd s_p0_kinds (x_1).toNatClampNeg x_2) (upd s_p0_lineCount (x_1).toNatClampNeg s_p0_newLines) (upd s_p0_marks (x_1).toNatClampNeg x_3) s_p0_newRow (upd s_p0_points (x_1).toNatClampNeg s_p0_newPoints) Q n_ (0 : Int32) s_p0_lines)))))
-- X7_keep
theorem iX7_keep_X7 : ∀ w ∈ wsX70, w ∈ wsX7_keep := by decide +kernel
set_option maxHeartbeats 4000000 in
set_option maxRecDepth 100000 in
theorem k_X7_keep_37 {E : vE} {T : Nat → ClassId} {o_p0 : Nat} {a_p0 : Nat → Nat} {s_p0_finding : Int32} {s_p0_asked : Int64} {s_p0_newPoints : Int32} {s_p0_newLines : Int32} {s_p0_faultAt : Int64} {s_p0_tries : Int32} {s_p0_things : Int32} {s_p0_goals : Int32} {s_p0_level : Int32} {s_p0_kinds : Nat → Int32} {s_p0_lineCount : Nat → Int32} {s_p0_marks : Nat → Int32} {s_p0_newRow : Nat → Int64} {s_p0_points : Nat → Int32} {x_1 : Int32} {Q : Int32 → (Nat → Int32) → (Nat → Int32) → (Nat → Int64) → (Nat → Int32) → (Nat → Int32) → Prop} (X : vX E cX7_keep 5 RX7 wsX7_keep (vT T) (vr 0 0)) (r : r_X7_keep E T o_p0 a_p0 s_p0_finding s_p0_asked s_p0_newPoints s_p0_newLines s_p0_faultAt s_p0_tries s_p0_things s_p0_goals s_p0_level s_p0_newRow Q) : ∀ (n_ : Nat) (x_4 : Int32) (s_p0_lines : Nat → Int64), w_X7_keep_37 x_1 s_p0_newPoints s_p0_newLines s_p0_kinds s_p0_lineCount s_p0_marks s_p0_newRow s_p0_points Q n_ x_4 s_p0_lines → V E 0 0 37 [(0, .ref o_p0), (1, .int x_1), (4, .int x_4)] [] (cl_X7_keep T o_p0 a_p0 s_p0_finding s_p0_asked s_p0_newPoints s_p0_newLines s_p0_faultAt s_p0_tries s_p0_things s_p0_goals s_p0_level s_p0_kinds s_p0_lineCount s_p0_lines s_p0_marks s_p0_newRow s_p0_points) := by
  intro n_
  induction n_ with
  | zero => intro x_4 s_p0_lines h; exact h.elim
  | succ n_ hK_37 =>
    intro x_4 s_p0_lines h
    replace h : w_X7_keep_37s x_1 s_p0_newPoints s_p0_newLines s_p0_kinds s_p0_lineCount s_p0_marks s_p0_newRow s_p0_points Q (w_X7_keep_37 x_1 s_p0_newPoints s_p0_newLines s_p0_kinds s_p0_lineCount s_p0_marks s_p0_newRow s_p0_points Q n_) x_4 s_p0_lines := h
    unfold w_X7_keep_37s at h
    refine v_iload X 2 dX7_keep_37 rfl ?_
    refine v_aload_n X 0 dX7_keep_39 rfl rfl ?_
    refine v_get X 0 9 (F := TX7) (N := 33) iX7_keep_X7 rfl rfl (by decide) (List.mem_of_getElem? (i := 4) rfl) rfl rfl dX7_keep_40 ?_
    refine v_icmp_ge X (tgt := 71) dX7_keep_43 (by decide) (fun c_43 => ?_) (fun c_43 => ?_)
    · replace h := h.1 c_43
      refine v_aload_n X 0 dX7_keep_71 rfl rfl ?_
      refine v_get X 0 8 (F := TX7) (N := 33) iX7_keep_X7 rfl rfl (by decide) (List.mem_of_getElem? (i := 2) rfl) rfl rfl dX7_keep_72 ?_
      exact r _ _ _ (s_p0_kinds, s_p0_lineCount, s_p0_lines, s_p0_marks, s_p0_points) _ dX7_keep_75 h rfl
    · replace h := h.2 c_43
      refine v_aload_n X 0 dX7_keep_46 rfl rfl ?_
      refine v_get X 0 7 (F := TX7) (N := 33) iX7_keep_X7 rfl rfl (by decide) (List.mem_of_getElem? (i := 7) rfl) rfl rfl dX7_keep_47 ?_
      refine v_bipush X dX7_keep_50 (v := (45 : Int32)) (by decide) ?_
      refine v_iload_n X 1 dX7_keep_52 rfl rfl ?_
      refine v_imul X dX7_keep_53 ?_
      refine v_iload X 2 dX7_keep_54 rfl ?_
      refine v_iadd X dX7_keep_56 ?_
      refine v_aload_n X 0 dX7_keep_57 rfl rfl ?_
      refine v_get X 0 10 (F := TX7) (N := 33) iX7_keep_X7 rfl rfl (by decide) (List.mem_of_getElem? (i := 8) rfl) rfl rfl dX7_keep_58 ?_
      refine v_iload X 2 dX7_keep_61 rfl ?_
      refine v_lald X 5 1 rfl rfl h.1 dX7_keep_63 ?_
      replace h := h.2
      refine v_last X (ws' := (cl_X7_keep T o_p0 a_p0 s_p0_finding s_p0_asked s_p0_newPoints s_p0_newLines s_p0_faultAt s_p0_tries s_p0_things s_p0_goals s_p0_level s_p0_kinds s_p0_lineCount (vp_updL s_p0_lines ((((45 : Int32) * x_1) + x_4)).toNatClampNeg (s_p0_newRow (x_4).toNatClampNeg)) s_p0_marks s_p0_newRow s_p0_points)) 3 1 rfl rfl h.1 rfl dX7_keep_64 ?_
      replace h := h.2
      refine v_iinc X (v := (x_4 + (1 : Int32))) (lv' := [(4, .int (x_4 + (1 : Int32))), (0, .ref o_p0), (1, .int x_1)]) 2 dX7_keep_65 rfl rfl (by decide) rfl ?_
      refine v_goto X (tgt := 37) dX7_keep_68 (by decide) ?_
      refine v_lv (lv' := [(0, .ref o_p0), (1, .int x_1), (4, .int (x_4 + (1 : Int32)))]) [1, 2, 0] rfl ?_
      exact hK_37 _ _ h
set_option maxHeartbeats 4000000 in
set_option maxRecDepth 100000 in
theorem c_X7_keep {l : Launch} {D : va_G} {T : Nat → ClassId} {o_p0 : Nat} {a_p0 : Nat → Nat} {s_p0_finding : Int32} {s_p0_asked : Int64} {s_p0_newPoints : Int32} {s_p0_newLines : Int32} {s_p0_faultAt : Int64} {s_p0_tries : Int32} {s_p0_things : Int32} {s_p0_goals : Int32} {s_p0_level : Int32} {s_p0_kinds : Nat → Int32} {s_p0_lineCount : Nat → Int32} {s_p0_lines : Nat → Int64} {s_p0_marks : Nat → Int32} {s_p0_newRow : Nat → Int64} {s_p0_points : Nat → Int32} {x_1 : Int32} {x_2 : Int32} {x_3 : Int32} {Q : Int32 → (Nat → Int32) → (Nat → Int32) → (Nat → Int64) → (Nat → Int32) → (Nat → Int32) → Prop} (h : w_X7_keep x_1 x_2 x_3 s_p0_newPoints s_p0_newLines s_p0_kinds s_p0_lineCount s_p0_lines s_p0_marks s_p0_newRow s_p0_points Q) : vCi l D (vT T) yX7_keep wsX7_keep (vr 0 0) [.ref o_p0, .int x_1, .int x_2, .int x_3] (cl_X7_keep T o_p0 a_p0 s_p0_finding s_p0_asked s_p0_newPoints s_p0_newLines s_p0_faultAt s_p0_tries s_p0_things s_p0_goals s_p0_level s_p0_kinds s_p0_lineCount s_p0_lines s_p0_marks s_p0_newRow s_p0_points) (fun v (u : (Nat → Int32) × (Nat → Int32) × (Nat → Int64) × (Nat → Int32) × (Nat → Int32)) => Q v u.1 u.2.1 u.2.2.1 u.2.2.2.1 u.2.2.2.2) (fun (u : (Nat → Int32) × (Nat → Int32) × (Nat → Int64) × (Nat → Int32) × (Nat → Int32)) => (cl_X7_keep T o_p0 a_p0 s_p0_finding s_p0_asked s_p0_newPoints s_p0_newLines s_p0_faultAt s_p0_tries s_p0_things s_p0_goals s_p0_level u.1 u.2.1 u.2.2.1 u.2.2.2.1 s_p0_newRow u.2.2.2.2)) := by
  refine vC_i (cc := cX7_keep) (nL := 5) (by decide +kernel) rfl ⟨rfl, rfl⟩ (Nat.le_of_ble_eq_true rfl) rfl ?_
  intro E el eD X r
  unfold w_X7_keep at h
  refine v_aload_n X 0 dX7_keep_0 rfl rfl ?_
  refine v_get X 0 3 (F := TX7) (N := 33) iX7_keep_X7 rfl rfl (by decide) (List.mem_of_getElem? (i := 1) rfl) rfl rfl dX7_keep_1 ?_
  refine v_iload_n X 1 dX7_keep_4 rfl rfl ?_
  refine v_aload_n X 0 dX7_keep_5 rfl rfl ?_
  refine v_get X 0 8 (F := TX7) (N := 33) iX7_keep_X7 rfl rfl (by decide) (List.mem_of_getElem? (i := 2) rfl) rfl rfl dX7_keep_6 ?_
  refine v_iast X (ws' := (cl_X7_keep T o_p0 a_p0 s_p0_finding s_p0_asked s_p0_newPoints s_p0_newLines s_p0_faultAt s_p0_tries s_p0_things s_p0_goals s_p0_level s_p0_kinds s_p0_lineCount s_p0_lines s_p0_marks s_p0_newRow (upd s_p0_points (x_1).toNatClampNeg s_p0_newPoints))) 6 0 rfl rfl h.1 rfl dX7_keep_9 ?_
  replace h := h.2
  refine v_aload_n X 0 dX7_keep_10 rfl rfl ?_
  refine v_get X 0 4 (F := TX7) (N := 33) iX7_keep_X7 rfl rfl (by decide) (List.mem_of_getElem? (i := 3) rfl) rfl rfl dX7_keep_11 ?_
  refine v_iload_n X 1 dX7_keep_14 rfl rfl ?_
  refine v_aload_n X 0 dX7_keep_15 rfl rfl ?_
  refine v_get X 0 9 (F := TX7) (N := 33) iX7_keep_X7 rfl rfl (by decide) (List.mem_of_getElem? (i := 4) rfl) rfl rfl dX7_keep_16 ?_
  refine v_iast X (ws' := (cl_X7_keep T o_p0 a_p0 s_p0_finding s_p0_asked s_p0_newPoints s_p0_newLines s_p0_faultAt s_p0_tries s_p0_things s_p0_goals s_p0_level s_p0_kinds (upd s_p0_lineCount (x_1).toNatClampNeg s_p0_newLines) s_p0_lines s_p0_marks s_p0_newRow (upd s_p0_points (x_1).toNatClampNeg s_p0_newPoints))) 2 0 rfl rfl h.1 rfl dX7_keep_19 ?_
  replace h := h.2
  refine v_aload_n X 0 dX7_keep_20 rfl rfl ?_
  refine v_get X 0 5 (F := TX7) (N := 33) iX7_keep_X7 rfl rfl (by decide) (List.mem_of_getElem? (i := 5) rfl) rfl rfl dX7_keep_21 ?_
  refine v_iload_n X 1 dX7_keep_24 rfl rfl ?_
  refine v_iload_n X 2 dX7_keep_25 rfl rfl ?_
  refine v_iast X (ws' := (cl_X7_keep T o_p0 a_p0 s_p0_finding s_p0_asked s_p0_newPoints s_p0_newLines s_p0_faultAt s_p0_tries s_p0_things s_p0_goals s_p0_level (upd s_p0_kinds (x_1).toNatClampNeg x_2) (upd s_p0_lineCount (x_1).toNatClampNeg s_p0_newLines) s_p0_lines s_p0_marks s_p0_newRow (upd s_p0_points (x_1).toNatClampNeg s_p0_newPoints))) 1 0 rfl rfl h.1 rfl dX7_keep_26 ?_
  replace h := h.2
  refine v_aload_n X 0 dX7_keep_27 rfl rfl ?_
  refine v_get X 0 6 (F := TX7) (N := 33) iX7_keep_X7 rfl rfl (by decide) (List.mem_of_getElem? (i := 6) rfl) rfl rfl dX7_keep_28 ?_
  refine v_iload_n X 1 dX7_keep_31 rfl rfl ?_
  refine v_iload_n X 3 dX7_keep_32 rfl rfl ?_
  refine v_iast X (ws' := (cl_X7_keep T o_p0 a_p0 s_p0_finding s_p0_asked s_p0_newPoints s_p0_newLines s_p0_faultAt s_p0_tries s_p0_things s_p0_goals s_p0_level (upd s_p0_kinds (x_1).toNatClampNeg x_2) (upd s_p0_lineCount (x_1).toNatClampNeg s_p0_newLines) s_p0_lines (upd s_p0_marks (x_1).toNatClampNeg x_3) s_p0_newRow (upd s_p0_points (x_1).toNatClampNeg s_p0_newPoints))) 4 0 rfl rfl h.1 rfl dX7_keep_33 ?_
  replace h := h.2
  refine v_iconst X dX7_keep_34 (v := (0 : Int32)) (by decide) ?_
  refine v_istore X (lv' := [(4, .int (0 : Int32)), (0, .ref o_p0), (1, .int x_1), (2, .int x_2), (3, .int x_3)]) dX7_keep_35 (by decide) rfl ?_
  refine v_lv (lv' := [(0, .ref o_p0), (1, .int x_1), (4, .int (0 : Int32))]) [1, 2, 0] rfl ?_
  obtain ⟨n_, h⟩ := h
  exact k_X7_keep_37 X r n_ _ _ h
-- X7_add
abbrev cl_X7_add (T : Nat → ClassId) (o_p0 : Nat) (a_p0 : Nat → Nat) (s_p0_finding : Int32) (s_p0_asked : Int64) (s_p0_newPoints : Int32) (s_p0_newLines : Int32) (s_p0_faultAt : Int64) (s_p0_tries : Int32) (s_p0_things : Int32) (s_p0_goals : Int32) (s_p0_level : Int32) (s_p0_newRow : Nat → Int64) : va_W := [vO o_p0 4 [.int s_p0_finding, .ref (a_p0 1), .long s_p0_asked, .ref (a_p0 3), .ref (a_p0 4), .ref (a_p0 5), .ref (a_p0 6), .ref (a_p0 7), .int s_p0_newPoints, .int s_p0_newLines, .ref (a_p0 10), .ref (a_p0 11), .long s_p0_faultAt, .int s_p0_tries, .int s_p0_things, .int s_p0_goals, .ref (a_p0 16), .ref (a_p0 17), .ref (a_p0 18), .ref (a_p0 19), .ref (a_p0 20), .ref (a_p0 21), .int s_p0_level, .ref (a_p0 23), .ref (a_p0 24), .ref (a_p0 25), .ref (a_p0 26), .ref (a_p0 27), .ref (a_p0 28), .ref (a_p0 29), .ref (a_p0 30), .ref (a_p0 31), .ref (a_p0 32)], vJ T (a_p0 10) 120 s_p0_newRow]
abbrev r_X7_add (E : vE) (T : Nat → ClassId) (o_p0 : Nat) (a_p0 : Nat → Nat) (s_p0_finding : Int32) (s_p0_asked : Int64) (s_p0_newPoints : Int32) (s_p0_faultAt : Int64) (s_p0_tries : Int32) (s_p0_things : Int32) (s_p0_goals : Int32) (s_p0_level : Int32) (Q : (Int32) → (Nat → Int64) → Prop) : Prop := vRv E cX7_add (fun (u : (Int32) × (Nat → Int64)) => Q u.1 u.2) (fun (u : (Int32) × (Nat → Int64)) => (cl_X7_add T o_p0 a_p0 s_p0_finding s_p0_asked s_p0_newPoints u.1 s_p0_faultAt s_p0_tries s_p0_things s_p0_goals s_p0_level u.2))
def w_X7_add (x_1 : Int64) (s_p0_newLines : Int32) (s_p0_newRow : Nat → Int64) (Q : (Int32) → (Nat → Int64) → Prop) : Prop := (vp_in s_p0_newLines 120 ∧ (Q (s_p0_newLines + (1 : Int32)) (vp_updL s_p0_newRow (s_p0_newLines).toNatClampNeg x_1)))
-- X7_add
theorem iX7_add_X7 : ∀ w ∈ wsX70, w ∈ wsX7_add := by decide +kernel
set_option maxHeartbeats 4000000 in
set_option maxRecDepth 100000 in
theorem c_X7_add {l : Launch} {D : va_G} {T : Nat → ClassId} {o_p0 : Nat} {a_p0 : Nat → Nat} {s_p0_finding : Int32} {s_p0_asked : Int64} {s_p0_newPoints : Int32} {s_p0_newLines : Int32} {s_p0_faultAt : Int64} {s_p0_tries : Int32} {s_p0_things : Int32} {s_p0_goals : Int32} {s_p0_level : Int32} {s_p0_newRow : Nat → Int64} {x_1 : Int64} {Q : (Int32) → (Nat → Int64) → Prop} (h : w_X7_add x_1 s_p0_newLines s_p0_newRow Q) : vCv l D (vT T) yX7_add wsX7_add (vr 0 0) [.ref o_p0, .long x_1] (cl_X7_add T o_p0 a_p0 s_p0_finding s_p0_asked s_p0_newPoints s_p0_newLines s_p0_faultAt s_p0_tries s_p0_things s_p0_goals s_p0_level s_p0_newRow) (fun (u : (Int32) × (Nat → Int64)) => Q u.1 u.2) (fun (u : (Int32) × (Nat → Int64)) => (cl_X7_add T o_p0 a_p0 s_p0_finding s_p0_asked s_p0_newPoints u.1 s_p0_faultAt s_p0_tries s_p0_things s_p0_goals s_p0_level u.2)) := by
  refine vC_v (cc := cX7_add) (nL := 3) (by decide +kernel) rfl ⟨rfl, rfl⟩ (Nat.le_of_ble_eq_true rfl) rfl ?_
  intro E el eD X r
  unfold w_X7_add at h
  refine v_aload_n X 0 dX7_add_0 rfl rfl ?_
  refine v_get X 0 10 (F := TX7) (N := 33) iX7_add_X7 rfl rfl (by decide) (List.mem_of_getElem? (i := 1) rfl) rfl rfl dX7_add_1 ?_
  refine v_aload_n X 0 dX7_add_4 rfl rfl ?_
  refine v_get X 0 9 (F := TX7) (N := 33) iX7_add_X7 rfl rfl (by decide) (List.mem_of_getElem? (i := 2) rfl) rfl rfl dX7_add_5 ?_
  refine v_lload_n X 1 dX7_add_8 rfl rfl ?_
  refine v_last X (ws' := (cl_X7_add T o_p0 a_p0 s_p0_finding s_p0_asked s_p0_newPoints s_p0_newLines s_p0_faultAt s_p0_tries s_p0_things s_p0_goals s_p0_level (vp_updL s_p0_newRow (s_p0_newLines).toNatClampNeg x_1))) 1 1 rfl rfl h.1 rfl dX7_add_9 ?_
  replace h := h.2
  refine v_aload_n X 0 dX7_add_10 rfl rfl ?_
  refine v_dup X dX7_add_11 rfl ?_
  refine v_get X 0 9 (F := TX7) (N := 33) iX7_add_X7 rfl rfl (by decide) (List.mem_of_getElem? (i := 2) rfl) rfl rfl dX7_add_12 ?_
  refine v_iconst X dX7_add_15 (v := (1 : Int32)) (by decide) ?_
  refine v_iadd X dX7_add_16 ?_
  refine v_put X (ws' := (cl_X7_add T o_p0 a_p0 s_p0_finding s_p0_asked s_p0_newPoints (s_p0_newLines + (1 : Int32)) s_p0_faultAt s_p0_tries s_p0_things s_p0_goals s_p0_level (vp_updL s_p0_newRow (s_p0_newLines).toNatClampNeg x_1))) 0 9 (F := TX7) (N := 33) iX7_add_X7 rfl tyX7 tyX7_ok nmX7 rfl (by decide) (List.mem_of_getElem? (i := 2) rfl) rfl rfl rfl rfl rfl (Nat.le_of_ble_eq_true rfl) rfl dX7_add_17 ?_
  exact r _ _ ((s_p0_newLines + (1 : Int32)), (vp_updL s_p0_newRow (s_p0_newLines).toNatClampNeg x_1)) _ dX7_add_20 h rfl
-- X7_world
abbrev cl_X7_world (T : Nat → ClassId) (o_p0 : Nat) (a_p0 : Nat → Nat) (s_p0_finding : Int32) (s_p0_asked : Int64) (s_p0_newPoints : Int32) (s_p0_newLines : Int32) (s_p0_faultAt : Int64) (s_p0_tries : Int32) (s_p0_things : Int32) (s_p0_goals : Int32) (s_p0_level : Int32) (s_p0_kinds : Nat → Int32) (s_p0_lineCount : Nat → Int32) (s_p0_lines : Nat → Int64) (s_p0_marks : Nat → Int32) (s_p0_newRow : Nat → Int64) (s_p0_points : Nat → Int32) : va_W := [vO o_p0 4 [.int s_p0_finding, .ref (a_p0 1), .long s_p0_asked, .ref (a_p0 3), .ref (a_p0 4), .ref (a_p0 5), .ref (a_p0 6), .ref (a_p0 7), .int s_p0_newPoints, .int s_p0_newLines, .ref (a_p0 10), .ref (a_p0 11), .long s_p0_faultAt, .int s_p0_tries, .int s_p0_things, .int s_p0_goals, .ref (a_p0 16), .ref (a_p0 17), .ref (a_p0 18), .ref (a_p0 19), .ref (a_p0 20), .ref (a_p0 21), .int s_p0_level, .ref (a_p0 23), .ref (a_p0 24), .ref (a_p0 25), .ref (a_p0 26), .ref (a_p0 27), .ref (a_p0 28), .ref (a_p0 29), .ref (a_p0 30), .ref (a_p0 31), .ref (a_p0 32)], vI T (a_p0 5) 6 s_p0_kinds, vI T (a_p0 4) 6 s_p0_lineCount, vJ T (a_p0 7) 270 s_p0_lines, vI T (a_p0 6) 6 s_p0_marks, vJ T (a_p0 10) 120 s_p0_newRow, vI T (a_p0 3) 6 s_p0_points]
abbrev r_X7_world (E : vE) (T : Nat → ClassId) (o_p0 : Nat) (a_p0 : Nat → Nat) (s_p0_finding : Int32) (s_p0_asked : Int64) (s_p0_faultAt : Int64) (s_p0_tries : Int32) (s_p0_things : Int32) (s_p0_goals : Int32) (s_p0_level : Int32) (s_p0_newRow : Nat → Int64) (Q : Int32 → (Int32) → (Int32) → (Nat → Int32) → (Nat → Int32) → (Nat → Int64) → (Nat → Int32) → (Nat → Int32) → Prop) : Prop := vRi E cX7_world (fun v (u : (Int32) × (Int32) × (Nat → Int32) × (Nat → Int32) × (Nat → Int64) × (Nat → Int32) × (Nat → Int32)) => Q v u.1 u.2.1 u.2.2.1 u.2.2.2.1 u.2.2.2.2.1 u.2.2.2.2.2.1 u.2.2.2.2.2.2) (fun (u : (Int32) × (Int32) × (Nat → Int32) × (Nat → Int32) × (Nat → Int64) × (Nat → Int32) × (Nat → Int32)) => (cl_X7_world T o_p0 a_p0 s_p0_finding s_p0_asked u.1 u.2.1 s_p0_faultAt s_p0_tries s_p0_things s_p0_goals s_p0_level u.2.2.1 u.2.2.2.1 u.2.2.2.2.1 u.2.2.2.2.2.1 s_p0_newRow u.2.2.2.2.2.2))
def w_X7_world_17 (s_p0_newPoints : Int32) (s_p0_newLines : Int32) (s_p0_kinds : Nat → Int32) (s_p0_lineCount : Nat → Int32) (s_p0_lines : Nat → Int64) (s_p0_marks : Nat → Int32) (s_p0_newRow : Nat → Int64) (s_p0_points : Nat → Int32) (Q : Int32 → (Int32) → (Int32) → (Nat → Int32) → (Nat → Int32) → (Nat → Int64) → (Nat → Int32) → (Nat → Int32) → Prop) : Prop := (Q (-1 : Int32) s_p0_newPoints s_p0_newLines s_p0_kinds s_p0_lineCount s_p0_lines s_p0_marks s_p0_points)
def w_X7_world (x_1 : Int32) (x_2 : Int32) (s_p0_newPoints : Int32) (s_p0_newLines : Int32) (s_p0_kinds : Nat → Int32) (s_p0_lineCount : Nat → Int32) (s_p0_lines : Nat → Int64) (s_p0_marks : Nat → Int32) (s_p0_newRow : Nat → Int64) (s_p0_points : Nat → Int32) (Q : Int32 → (Int32) → (Int32) → (Nat → Int32) → (Nat → Int32) → (Nat → Int64) → (Nat → Int32) → (Nat → Int32) → Prop) : Prop := (w_X7_isNumber x_1 (fun (r_1 : Int32) => ((r_1 = 0 → (w_X7_world_17 s_p0_newPoints s_p0_newLines s_p0_kinds s_p0_lineCount s_p0_lines s_p0_marks s_p0_newRow s_p0_points Q)) ∧ (¬ r_1 = 0 → (w_X7_in x_2 (2 : Int32) (45 : Int32) (fun (r_11 : Int32) => ((¬ r_11 = 0 → (w_X7_keep x_1 (0 : Int32) (0 : Int32) x_2 (0 : Int32) s_p0_kinds s_p0_lineCount s_p0_lines s_p0_marks s_p0_newRow s_p0_points (fun (r_33 : Int32) (u_33_0 : Nat → Int32) (u_33_1 : Nat → Int32) (u_33_2 : Nat → Int64) (u_33_3 : Nat → Int32) (u_33_4 : Nat → Int32) => (Q r_33 x_2 (0 : Int32) u_33_0 u_33_1 u_33_2 u_33_3 u_33_4)))) ∧ (r_11 = 0 → (w_X7_world_17 s_p0_newPoints s_p0_newLines s_p0_kinds s_p0_lineCount s_p0_lines s_p0_marks s_p0_newRow s_p0_points Q)))))))))
-- X7_world
theorem iX7_world_X7 : ∀ w ∈ wsX70, w ∈ wsX7_world := by decide +kernel
set_option maxHeartbeats 4000000 in
set_option maxRecDepth 100000 in
theorem k_X7_world_17 {E : vE} {T : Nat → ClassId} {o_p0 : Nat} {a_p0 : Nat → Nat} {s_p0_finding : Int32} {s_p0_asked : Int64} {s_p0_newPoints : Int32} {s_p0_newLines : Int32} {s_p0_faultAt : Int64} {s_p0_tries : Int32} {s_p0_things : Int32} {s_p0_goals : Int32} {s_p0_level : Int32} {s_p0_kinds : Nat → Int32} {s_p0_lineCount : Nat → Int32} {s_p0_lines : Nat → Int64} {s_p0_marks : Nat → Int32} {s_p0_newRow : Nat → Int64} {s_p0_points : Nat → Int32} {Q : Int32 → (Int32) → (Int32) → (Nat → Int32) → (Nat → Int32) → (Nat → Int64) → (Nat → Int32) → (Nat → Int32) → Prop} (X : vX E cX7_world 3 RX7 wsX7_world (vT T) (vr 2 42)) (r : r_X7_world E T o_p0 a_p0 s_p0_finding s_p0_asked s_p0_faultAt s_p0_tries s_p0_things s_p0_goals s_p0_level s_p0_newRow Q) (h : w_X7_world_17 s_p0_newPoints s_p0_newLines s_p0_kinds s_p0_lineCount s_p0_lines s_p0_marks s_p0_newRow s_p0_points Q) : V E 0 0 17 [] [] (cl_X7_world T o_p0 a_p0 s_p0_finding s_p0_asked s_p0_newPoints s_p0_newLines s_p0_faultAt s_p0_tries s_p0_things s_p0_goals s_p0_level s_p0_kinds s_p0_lineCount s_p0_lines s_p0_marks s_p0_newRow s_p0_points) := by
  unfold w_X7_world_17 at h
  refine v_iconst X dX7_world_17 (v := (-1 : Int32)) (by decide) ?_
  exact r _ _ _ (s_p0_newPoints, s_p0_newLines, s_p0_kinds, s_p0_lineCount, s_p0_lines, s_p0_marks, s_p0_points) _ dX7_world_18 h rfl
set_option maxHeartbeats 4000000 in
set_option maxRecDepth 100000 in
theorem c_X7_world {l : Launch} {D : va_G} {T : Nat → ClassId} {o_p0 : Nat} {a_p0 : Nat → Nat} {s_p0_finding : Int32} {s_p0_asked : Int64} {s_p0_newPoints : Int32} {s_p0_newLines : Int32} {s_p0_faultAt : Int64} {s_p0_tries : Int32} {s_p0_things : Int32} {s_p0_goals : Int32} {s_p0_level : Int32} {s_p0_kinds : Nat → Int32} {s_p0_lineCount : Nat → Int32} {s_p0_lines : Nat → Int64} {s_p0_marks : Nat → Int32} {s_p0_newRow : Nat → Int64} {s_p0_points : Nat → Int32} {x_1 : Int32} {x_2 : Int32} {Q : Int32 → (Int32) → (Int32) → (Nat → Int32) → (Nat → Int32) → (Nat → Int64) → (Nat → Int32) → (Nat → Int32) → Prop} (h : w_X7_world x_1 x_2 s_p0_newPoints s_p0_newLines s_p0_kinds s_p0_lineCount s_p0_lines s_p0_marks s_p0_newRow s_p0_points Q) : vCi l D (vT T) yX7_world wsX7_world (vr 2 42) [.ref o_p0, .int x_1, .int x_2] (cl_X7_world T o_p0 a_p0 s_p0_finding s_p0_asked s_p0_newPoints s_p0_newLines s_p0_faultAt s_p0_tries s_p0_things s_p0_goals s_p0_level s_p0_kinds s_p0_lineCount s_p0_lines s_p0_marks s_p0_newRow s_p0_points) (fun v (u : (Int32) × (Int32) × (Nat → Int32) × (Nat → Int32) × (Nat → Int64) × (Nat → Int32) × (Nat → Int32)) => Q v u.1 u.2.1 u.2.2.1 u.2.2.2.1 u.2.2.2.2.1 u.2.2.2.2.2.1 u.2.2.2.2.2.2) (fun (u : (Int32) × (Int32) × (Nat → Int32) × (Nat → Int32) × (Nat → Int64) × (Nat → Int32) × (Nat → Int32)) => (cl_X7_world T o_p0 a_p0 s_p0_finding s_p0_asked u.1 u.2.1 s_p0_faultAt s_p0_tries s_p0_things s_p0_goals s_p0_level u.2.2.1 u.2.2.2.1 u.2.2.2.2.1 u.2.2.2.2.2.1 s_p0_newRow u.2.2.2.2.2.2)) := by
  refine vC_i (cc := cX7_world) (nL := 3) (by decide +kernel) rfl ⟨rfl, rfl⟩ (Nat.le_of_ble_eq_true rfl) rfl ?_
  intro E el eD X r
  unfold w_X7_world at h
  refine v_iload_n X 1 dX7_world_0 rfl rfl ?_
  refine v_callSi0 X (As := [.int x_1]) (rest := []) 1 (c_X7_isNumber (l := vl E) (D := vD E) (T := T) (x_0 := x_1) h) gX7_world_X7_isNumber rfl rfl (by decide +kernel) ⟨Nat.zero_le _, Nat.zero_le _⟩ ⟨rfl, rfl, by decide, by decide⟩ (Nat.le_of_ble_eq_true rfl) rfl dX7_world_1 (fun r_1 h => ?_)
  refine v_if_eq X (tgt := 17) dX7_world_4 (by decide) (fun c_4 => ?_) (fun c_4 => ?_)
  · replace h := h.1 c_4
    refine v_lv (lv' := []) [] rfl ?_
    exact k_X7_world_17 X r h
  · replace h := h.2 c_4
    refine v_iload_n X 2 dX7_world_7 rfl rfl ?_
    refine v_iconst X dX7_world_8 (v := (2 : Int32)) (by decide) ?_
    refine v_bipush X dX7_world_9 (v := (45 : Int32)) (by decide) ?_
    refine v_callSi0 X (As := [.int x_2, .int (2 : Int32), .int (45 : Int32)]) (rest := []) 3 (c_X7_in (l := vl E) (D := vD E) (T := T) (x_0 := x_2) (x_1 := (2 : Int32)) (x_2 := (45 : Int32)) h) gX7_world_X7_in rfl rfl (by decide +kernel) ⟨Nat.zero_le _, Nat.zero_le _⟩ ⟨rfl, rfl, by decide, by decide⟩ (Nat.le_of_ble_eq_true rfl) rfl dX7_world_11 (fun r_11 h => ?_)
    refine v_if_ne X (tgt := 19) dX7_world_14 (by decide) (fun c_14 => ?_) (fun c_14 => ?_)
    · replace h := h.1 c_14
      refine v_aload_n X 0 dX7_world_19 rfl rfl ?_
      refine v_iload_n X 2 dX7_world_20 rfl rfl ?_
      refine v_put X (ws' := (cl_X7_world T o_p0 a_p0 s_p0_finding s_p0_asked x_2 s_p0_newLines s_p0_faultAt s_p0_tries s_p0_things s_p0_goals s_p0_level s_p0_kinds s_p0_lineCount s_p0_lines s_p0_marks s_p0_newRow s_p0_points)) 0 8 (F := TX7) (N := 33) iX7_world_X7 rfl tyX7 tyX7_ok nmX7 rfl (by decide) (List.mem_of_getElem? (i := 1) rfl) rfl rfl rfl rfl rfl (Nat.le_of_ble_eq_true rfl) rfl dX7_world_21 ?_
      refine v_aload_n X 0 dX7_world_24 rfl rfl ?_
      refine v_iconst X dX7_world_25 (v := (0 : Int32)) (by decide) ?_
      refine v_put X (ws' := (cl_X7_world T o_p0 a_p0 s_p0_finding s_p0_asked x_2 (0 : Int32) s_p0_faultAt s_p0_tries s_p0_things s_p0_goals s_p0_level s_p0_kinds s_p0_lineCount s_p0_lines s_p0_marks s_p0_newRow s_p0_points)) 0 9 (F := TX7) (N := 33) iX7_world_X7 rfl tyX7 tyX7_ok nmX7 rfl (by decide) (List.mem_of_getElem? (i := 2) rfl) rfl rfl rfl rfl rfl (Nat.le_of_ble_eq_true rfl) rfl dX7_world_26 ?_
      refine v_aload_n X 0 dX7_world_29 rfl rfl ?_
      refine v_iload_n X 1 dX7_world_30 rfl rfl ?_
      refine v_iconst X dX7_world_31 (v := (0 : Int32)) (by decide) ?_
      refine v_iconst X dX7_world_32 (v := (0 : Int32)) (by decide) ?_
      refine v_callVi X (As := [.int x_1, .int (0 : Int32), .int (0 : Int32)]) (rest := []) 3 0 (c_X7_keep (l := vl E) (D := vD E) (T := T) (o_p0 := o_p0) (a_p0 := a_p0) (s_p0_finding := s_p0_finding) (s_p0_asked := s_p0_asked) (s_p0_newPoints := x_2) (s_p0_newLines := (0 : Int32)) (s_p0_faultAt := s_p0_faultAt) (s_p0_tries := s_p0_tries) (s_p0_things := s_p0_things) (s_p0_goals := s_p0_goals) (s_p0_level := s_p0_level) (s_p0_kinds := s_p0_kinds) (s_p0_lineCount := s_p0_lineCount) (s_p0_lines := s_p0_lines) (s_p0_marks := s_p0_marks) (s_p0_newRow := s_p0_newRow) (s_p0_points := s_p0_points) (x_1 := x_1) (x_2 := (0 : Int32)) (x_3 := (0 : Int32)) h) gX7_world_X7_keep rfl rfl (by decide +kernel) ⟨Nat.zero_le _, Nat.zero_le _⟩ ⟨rfl, rfl, by decide, by decide⟩ (Nat.le_of_ble_eq_true rfl) rfl rfl (wr := []) [0, 1, 2, 3, 4, 5, 6] [] rfl rfl rfl rfl (by decide) rfl dX7_world_33 (fun r_33 u h => ?_)
      obtain ⟨u_33_0, u_33_1, u_33_2, u_33_3, u_33_4⟩ := u
      dsimp only at h
      refine v_ws (ws' := (cl_X7_world T o_p0 a_p0 s_p0_finding s_p0_asked x_2 (0 : Int32) s_p0_faultAt s_p0_tries s_p0_things s_p0_goals s_p0_level u_33_0 u_33_1 u_33_2 u_33_3 s_p0_newRow u_33_4)) [0, 1, 2, 3, 4, 5, 6] rfl rfl ?_
      exact r _ _ _ (x_2, (0 : Int32), u_33_0, u_33_1, u_33_2, u_33_3, u_33_4) _ dX7_world_36 h rfl
    · replace h := h.2 c_14
      refine v_lv (lv' := []) [] rfl ?_
      exact k_X7_world_17 X r h
-- X7_isRow
abbrev cl_X7_isRow (T : Nat → ClassId) : va_W := []
abbrev r_X7_isRow (E : vE) (T : Nat → ClassId) (Q : Int32 → Prop) : Prop := vRz E cX7_isRow (fun v (u : Unit) => Q v) (fun (u : Unit) => (cl_X7_isRow T))
def w_X7_isRow (x_0 : Int32) (Q : Int32 → Prop) : Prop := (w_X7_in x_0 (0 : Int32) (3 : Int32) (fun (r_3 : Int32) => (vz r_3 ∧ Q r_3)))
-- X7_isRow
set_option maxHeartbeats 4000000 in
set_option maxRecDepth 100000 in
theorem c_X7_isRow {l : Launch} {D : va_G} {T : Nat → ClassId} {x_0 : Int32} {Q : Int32 → Prop} (h : w_X7_isRow x_0 Q) : vCi l D (vT T) yX7_isRow wsX7_isRow (vr 1 22) [.int x_0] (cl_X7_isRow T) (fun v (u : Unit) => Q v) (fun (u : Unit) => (cl_X7_isRow T)) := by
  refine vC_z (cc := cX7_isRow) (nL := 1) (by decide +kernel) rfl ⟨rfl, rfl⟩ (Nat.le_of_ble_eq_true rfl) rfl ?_
  intro E el eD X r
  unfold w_X7_isRow at h
  refine v_iload_n X 0 dX7_isRow_0 rfl rfl ?_
  refine v_iconst X dX7_isRow_1 (v := (0 : Int32)) (by decide) ?_
  refine v_iconst X dX7_isRow_2 (v := (3 : Int32)) (by decide) ?_
  refine v_callSi0 X (As := [.int x_0, .int (0 : Int32), .int (3 : Int32)]) (rest := []) 3 (c_X7_in (l := vl E) (D := vD E) (T := T) (x_0 := x_0) (x_1 := (0 : Int32)) (x_2 := (3 : Int32)) h) gX7_isRow_X7_in rfl rfl (by decide +kernel) ⟨Nat.zero_le _, Nat.zero_le _⟩ ⟨rfl, rfl, by decide, by decide⟩ (Nat.le_of_ble_eq_true rfl) rfl dX7_isRow_3 (fun r_3 h => ?_)
  exact r _ _ _ () _ dX7_isRow_6 h.1 h.2 rfl
-- X7_line
abbrev cl_X7_line (T : Nat → ClassId) (o_p0 : Nat) (a_p0 : Nat → Nat) (s_p0_finding : Int32) (s_p0_asked : Int64) (s_p0_newPoints : Int32) (s_p0_newLines : Int32) (s_p0_faultAt : Int64) (s_p0_tries : Int32) (s_p0_things : Int32) (s_p0_goals : Int32) (s_p0_level : Int32) (s_p0_findings : Nat → Int32) (s_p0_kinds : Nat → Int32) (s_p0_lineCount : Nat → Int32) (s_p0_lines : Nat → Int64) (s_p0_points : Nat → Int32) (s_p0_rows : Nat → Int32) (s_p0_sizes : Nat → Int32) : va_W := [vO o_p0 4 [.int s_p0_finding, .ref (a_p0 1), .long s_p0_asked, .ref (a_p0 3), .ref (a_p0 4), .ref (a_p0 5), .ref (a_p0 6), .ref (a_p0 7), .int s_p0_newPoints, .int s_p0_newLines, .ref (a_p0 10), .ref (a_p0 11), .long s_p0_faultAt, .int s_p0_tries, .int s_p0_things, .int s_p0_goals, .ref (a_p0 16), .ref (a_p0 17), .ref (a_p0 18), .ref (a_p0 19), .ref (a_p0 20), .ref (a_p0 21), .int s_p0_level, .ref (a_p0 23), .ref (a_p0 24), .ref (a_p0 25), .ref (a_p0 26), .ref (a_p0 27), .ref (a_p0 28), .ref (a_p0 29), .ref (a_p0 30), .ref (a_p0 31), .ref (a_p0 32)], vI T (a_p0 1) 6 s_p0_findings, vI T (a_p0 5) 6 s_p0_kinds, vI T (a_p0 4) 6 s_p0_lineCount, vJ T (a_p0 7) 270 s_p0_lines, vI T (a_p0 3) 6 s_p0_points, vI T (a_p0 31) 48 s_p0_rows, vI T (a_p0 30) 4 s_p0_sizes]
abbrev r_X7_line (E : vE) (T : Nat → ClassId) (o_p0 : Nat) (a_p0 : Nat → Nat) (s_p0_asked : Int64) (s_p0_newPoints : Int32) (s_p0_newLines : Int32) (s_p0_faultAt : Int64) (s_p0_tries : Int32) (s_p0_things : Int32) (s_p0_goals : Int32) (s_p0_level : Int32) (s_p0_kinds : Nat → Int32) (s_p0_points : Nat → Int32) (s_p0_rows : Nat → Int32) (s_p0_sizes : Nat → Int32) (Q : Int32 → (Int32) → (Nat → Int32) → (Nat → Int32) → (Nat → Int64) → Prop) : Prop := vRi E cX7_line (fun v (u : (Int32) × (Nat → Int32) × (Nat → Int32) × (Nat → Int64)) => Q v u.1 u.2.1 u.2.2.1 u.2.2.2) (fun (u : (Int32) × (Nat → Int32) × (Nat → Int32) × (Nat → Int64)) => (cl_X7_line T o_p0 a_p0 u.1 s_p0_asked s_p0_newPoints s_p0_newLines s_p0_faultAt s_p0_tries s_p0_things s_p0_goals s_p0_level u.2.1 s_p0_kinds u.2.2.1 u.2.2.2 s_p0_points s_p0_rows s_p0_sizes))
def w_X7_line_154 (x_1 : Int32) (x_2 : Int32) (x_5 : Int32) (x_6 : Int32) (t_0 : Int64) (t_1 : Int64) (s_p0_finding : Int32) (s_p0_findings : Nat → Int32) (s_p0_kinds : Nat → Int32) (s_p0_lineCount : Nat → Int32) (s_p0_lines : Nat → Int64) (s_p0_points : Nat → Int32) (s_p0_rows : Nat → Int32) (s_p0_sizes : Nat → Int32) (K_86 : (Int64) → (Int32) → (Int32) → Prop) (Q : Int32 → (Int32) → (Nat → Int32) → (Nat → Int32) → (Nat → Int64) → Prop) : Prop := (K_86 (t_0 ||| t_1) x_5 (x_6 + (1 : Int32)))
def w_X7_line_138 (x_1 : Int32) (x_2 : Int32) (x_3 : Int64) (x_6 : Int32) (x_7 : Int32) (t_0 : Int32) (s_p0_finding : Int32) (s_p0_findings : Nat → Int32) (s_p0_kinds : Nat → Int32) (s_p0_lineCount : Nat → Int32) (s_p0_lines : Nat → Int64) (s_p0_points : Nat → Int32) (s_p0_rows : Nat → Int32) (s_p0_sizes : Nat → Int32) (K_86 : (Int64) → (Int32) → (Int32) → Prop) (Q : Int32 → (Int32) → (Nat → Int32) → (Nat → Int32) → (Nat → Int64) → Prop) : Prop := ((t_0 = 0 → (w_X7_line_154 x_1 x_2 t_0 x_6 x_3 (0 : Int64) s_p0_finding s_p0_findings s_p0_kinds s_p0_lineCount s_p0_lines s_p0_points s_p0_rows s_p0_sizes K_86 Q)) ∧ (¬ t_0 = 0 → (w_X7_line_154 x_1 x_2 t_0 x_6 x_3 (vshl (1 : Int64) x_7) s_p0_finding s_p0_findings s_p0_kinds s_p0_lineCount s_p0_lines s_p0_points s_p0_rows s_p0_sizes K_86 Q)))
def w_X7_line_137 (x_1 : Int32) (x_2 : Int32) (x_3 : Int64) (x_6 : Int32) (x_7 : Int32) (s_p0_finding : Int32) (s_p0_findings : Nat → Int32) (s_p0_kinds : Nat → Int32) (s_p0_lineCount : Nat → Int32) (s_p0_lines : Nat → Int64) (s_p0_points : Nat → Int32) (s_p0_rows : Nat → Int32) (s_p0_sizes : Nat → Int32) (K_86 : (Int64) → (Int32) → (Int32) → Prop) (Q : Int32 → (Int32) → (Nat → Int32) → (Nat → Int32) → (Nat → Int64) → Prop) : Prop := (w_X7_line_138 x_1 x_2 x_3 x_6 x_7 (0 : Int32) s_p0_finding s_p0_findings s_p0_kinds s_p0_lineCount s_p0_lines s_p0_points s_p0_rows s_p0_sizes K_86 Q)
def w_X7_line_86s (x_1 : Int32) (x_2 : Int32) (s_p0_finding : Int32) (s_p0_findings : Nat → Int32) (s_p0_kinds : Nat → Int32) (s_p0_lineCount : Nat → Int32) (s_p0_lines : Nat → Int64) (s_p0_points : Nat → Int32) (s_p0_rows : Nat → Int32) (s_p0_sizes : Nat → Int32) (Q : Int32 → (Int32) → (Nat → Int32) → (Nat → Int32) → (Nat → Int64) → Prop) (K_86 : (Int64) → (Int32) → (Int32) → Prop) (x_3 : Int64) (x_5 : Int32) (x_6 : Int32) : Prop := (vp_in x_2 4 ∧ (((s_p0_sizes (x_2).toNatClampNeg) ≤ x_6 → ((¬ x_5 = 0 → (w_X7_bits x_3 (fun (r_174 : Int32) => (((2 : Int32) ≤ r_174 → (vp_in x_1 6 ∧ (vp_in (((45 : Int32) * x_1) + (s_p0_lineCount (x_1).toNatClampNeg)) 270 ∧ (vp_in x_1 6 ∧ (vp_in x_1 6 ∧ (vp_in x_1 6 ∧ (Q (((upd s_p0_lineCount (x_1).toNatClampNeg ((s_p0_lineCount (x_1).toNatClampNeg) + (1 : Int32))) (x_1).toNatClampNeg) - (1 : Int32)) s_p0_finding s_p0_findings (upd s_p0_lineCount (x_1).toNatClampNeg ((s_p0_lineCount (x_1).toNatClampNeg) + (1 : Int32))) (vp_updL s_p0_lines ((((45 : Int32) * x_1) + (s_p0_lineCount (x_1).toNatClampNeg))).toNatClampNeg x_3)))))))) ∧ (¬ (2 : Int32) ≤ r_174 → (w_X7_meets (5 : Int32) s_p0_finding s_p0_findings (fun (r_183 : Int32) (u_183_0 : Int32) (u_183_1 : Nat → Int32) => (Q r_183 u_183_0 u_183_1 s_p0_lineCount s_p0_lines)))))))) ∧ (x_5 = 0 → (w_X7_meets (2 : Int32) s_p0_finding s_p0_findings (fun (r_169 : Int32) (u_169_0 : Int32) (u_169_1 : Nat → Int32) => (Q r_169 u_169_0 u_169_1 s_p0_lineCount s_p0_lines)))))) ∧ (¬ (s_p0_sizes (x_2).toNatClampNeg) ≤ x_6 → (vp_in (((12 : Int32) * x_2) + x_6) 48 ∧ ((x_5 = 0 → (w_X7_line_137 x_1 x_2 x_3 x_6 (s_p0_rows ((((12 : Int32) * x_2) + x_6)).toNatClampNeg) s_p0_finding s_p0_findings s_p0_kinds s_p0_lineCount s_p0_lines s_p0_points s_p0_rows s_p0_sizes K_86 Q)) ∧ (¬ x_5 = 0 → (vp_in x_1 6 ∧ (w_X7_in (s_p0_rows ((((12 : Int32) * x_2) + x_6)).toNatClampNeg) (0 : Int32) ((s_p0_points (x_1).toNatClampNeg) - (1 : Int32)) (fun (r_127 : Int32) => ((r_127 = 0 → (w_X7_line_137 x_1 x_2 x_3 x_6 (s_p0_rows ((((12 : Int32) * x_2) + x_6)).toNatClampNeg) s_p0_finding s_p0_findings s_p0_kinds s_p0_lineCount s_p0_lines s_p0_points s_p0_rows s_p0_sizes K_86 Q)) ∧ (¬ r_127 = 0 → (w_X7_line_138 x_1 x_2 x_3 x_6 (s_p0_rows ((((12 : Int32) * x_2) + x_6)).toNatClampNeg) (1 : Int32) s_p0_finding s_p0_findings s_p0_kinds s_p0_lineCount s_p0_lines s_p0_points s_p0_rows s_p0_sizes K_86 Q))))))))))))
def w_X7_line_86 (x_1 : Int32) (x_2 : Int32) (s_p0_finding : Int32) (s_p0_findings : Nat → Int32) (s_p0_kinds : Nat → Int32) (s_p0_lineCount : Nat → Int32) (s_p0_lines : Nat → Int64) (s_p0_points : Nat → Int32) (s_p0_rows : Nat → Int32) (s_p0_sizes : Nat → Int32) (Q : Int32 → (Int32) → (Nat → Int32) → (Nat → Int32) → (Nat → Int64) → Prop) : Nat → (Int64) → (Int32) → (Int32) → Prop
  | 0 => fun _ _ _ => False
  | n_ + 1 => w_X7_line_86s x_1 x_2 s_p0_finding s_p0_findings s_p0_kinds s_p0_lineCount s_p0_lines s_p0_points s_p0_rows s_p0_sizes Q (w_X7_line_86 x_1 x_2 s_p0_finding s_p0_findings s_p0_kinds s_p0_lineCount s_p0_lines s_p0_points s_p0_rows s_p0_sizes Q n_)
def w_X7_line_57 (s_p0_finding : Int32) (s_p0_findings : Nat → Int32) (s_p0_kinds : Nat → Int32) (s_p0_lineCount : Nat → Int32) (s_p0_lines : Nat → Int64) (s_p0_points : Nat → Int32) (s_p0_rows : Nat → Int32) (s_p0_sizes : Nat → Int32) (Q : Int32 → (Int32) → (Nat → Int32) → (Nat → Int32) → (Nat → Int64) → Prop) : Prop := (w_X7_meets (1 : Int32) s_p0_finding s_p0_findings (fun (r_59 : Int32) (u_59_0 : Int32) (u_59_1 : Nat → Int32) => (Q r_59 u_59_0 u_59_1 s_p0_lineCount s_p0_lines)))
def w_X7_line_39 (x_1 : Int32) (x_2 : Int32) (s_p0_finding : Int32) (s_p0_findings : Nat → Int32) (s_p0_kinds : Nat → Int32) (s_p0_lineCount : Nat → Int32) (s_p0_lines : Nat → Int64) (s_p0_points : Nat → Int32) (s_p0_rows : Nat → Int32) (s_p0_sizes : Nat → Int32) (Q : Int32 → (Int32) → (Nat → Int32) → (Nat → Int32) → (Nat → Int64) → Prop) : Prop := (vp_in x_1 6 ∧ (((s_p0_points (x_1).toNatClampNeg) = 0 → (w_X7_line_57 s_p0_finding s_p0_findings s_p0_kinds s_p0_lineCount s_p0_lines s_p0_points s_p0_rows s_p0_sizes Q)) ∧ (¬ (s_p0_points (x_1).toNatClampNeg) = 0 → (vp_in x_2 4 ∧ ((0 ≤ (s_p0_sizes (x_2).toNatClampNeg) → (vp_in x_1 6 ∧ (((s_p0_kinds (x_1).toNatClampNeg) = 0 → (∃ n_, w_X7_line_86 x_1 x_2 s_p0_finding s_p0_findings s_p0_kinds s_p0_lineCount s_p0_lines s_p0_points s_p0_rows s_p0_sizes Q n_ (0 : Int64) (1 : Int32) (0 : Int32))) ∧ (¬ (s_p0_kinds (x_1).toNatClampNeg) = 0 → (w_X7_meets (3 : Int32) s_p0_finding s_p0_findings (fun (r_74 : Int32) (u_74_0 : Int32) (u_74_1 : Nat → Int32) => (Q r_74 u_74_0 u_74_1 s_p0_lineCount s_p0_lines))))))) ∧ (¬ 0 ≤ (s_p0_sizes (x_2).toNatClampNeg) → (w_X7_line_57 s_p0_finding s_p0_findings s_p0_kinds s_p0_lineCount s_p0_lines s_p0_points s_p0_rows s_p0_sizes Q)))))))
def w_X7_line_14 (s_p0_finding : Int32) (s_p0_findings : Nat → Int32) (s_p0_kinds : Nat → Int32) (s_p0_lineCount : Nat → Int32) (s_p0_lines : Nat → Int64) (s_p0_points : Nat → Int32) (s_p0_rows : Nat → Int32) (s_p0_sizes : Nat → Int32) (Q : Int32 → (Int32) → (Nat → Int32) → (Nat → Int32) → (Nat → Int64) → Prop) : Prop := (Q (-1 : Int32) s_p0_finding s_p0_findings s_p0_lineCount s_p0_lines)
def w_X7_line (x_1 : Int32) (x_2 : Int32) (s_p0_finding : Int32) (s_p0_findings : Nat → Int32) (s_p0_kinds : Nat → Int32) (s_p0_lineCount : Nat → Int32) (s_p0_lines : Nat → Int64) (s_p0_points : Nat → Int32) (s_p0_rows : Nat → Int32) (s_p0_sizes : Nat → Int32) (Q : Int32 → (Int32) → (Nat → Int32) → (Nat → Int32) → (Nat → Int64) → Prop) : Prop := (w_X7_isNumber x_1 (fun (r_1 : Int32) => ((r_1 = 0 → (w_X7_line_14 s_p0_finding s_p0_findings s_p0_kinds s_p0_lineCount s_p0_lines s_p0_points s_p0_rows s_p0_sizes Q)) ∧ (¬ r_1 = 0 → (w_X7_isRow x_2 (fun (r_8 : Int32) => ((¬ r_8 = 0 → (vp_in x_1 6 ∧ (((s_p0_points (x_1).toNatClampNeg) ≤ 0 → (w_X7_line_39 x_1 x_2 s_p0_finding s_p0_findings s_p0_kinds s_p0_lineCount s_p0_lines s_p0_points s_p0_rows s_p0_sizes Q)) ∧ (¬ (s_p0_points (x_1).toNatClampNeg) ≤ 0 → (vp_in x_1 6 ∧ ((¬ (s_p0_lineCount (x_1).toNatClampNeg) = (45 : Int32) → (w_X7_line_39 x_1 x_2 s_p0_finding s_p0_findings s_p0_kinds s_p0_lineCount s_p0_lines s_p0_points s_p0_rows s_p0_sizes Q)) ∧ ((s_p0_lineCount (x_1).toNatClampNeg) = (45 : Int32) → (Q (-2 : Int32) s_p0_finding s_p0_findings s_p0_lineCount s_p0_lines)))))))) ∧ (r_8 = 0 → (w_X7_line_14 s_p0_finding s_p0_findings s_p0_kinds s_p0_lineCount s_p0_lines s_p0_points s_p0_rows s_p0_sizes Q)))))))))
-- X7_line
theorem iX7_line_X7 : ∀ w ∈ wsX70, w ∈ wsX7_line := by decide +kernel
set_option maxHeartbeats 4000000 in
set_option maxRecDepth 100000 in
theorem k_X7_line_154 {E : vE} {T : Nat → ClassId} {o_p0 : Nat} {a_p0 : Nat → Nat} {s_p0_finding : Int32} {s_p0_asked : Int64} {s_p0_newPoints : Int32} {s_p0_newLines : Int32} {s_p0_faultAt : Int64} {s_p0_tries : Int32} {s_p0_things : Int32} {s_p0_goals : Int32} {s_p0_level : Int32} {s_p0_findings : Nat → Int32} {s_p0_kinds : Nat → Int32} {s_p0_lineCount : Nat → Int32} {s_p0_lines : Nat → Int64} {s_p0_points : Nat → Int32} {s_p0_rows : Nat → Int32} {s_p0_sizes : Nat → Int32} {x_1 : Int32} {x_2 : Int32} {x_5 : Int32} {x_6 : Int32} {t_0 : Int64} {t_1 : Int64} {K_86 : (Int64) → (Int32) → (Int32) → Prop} {Q : Int32 → (Int32) → (Nat → Int32) → (Nat → Int32) → (Nat → Int64) → Prop} (X : vX E cX7_line 8 RX7 wsX7_line (vT T) (vr 2 42)) (r : r_X7_line E T o_p0 a_p0 s_p0_asked s_p0_newPoints s_p0_newLines s_p0_faultAt s_p0_tries s_p0_things s_p0_goals s_p0_level s_p0_kinds s_p0_points s_p0_rows s_p0_sizes Q) (hK_86 : ∀ (x_3' : Int64) (x_5' : Int32) (x_6' : Int32), K_86 x_3' x_5' x_6' → V E 0 0 86 [(0, .ref o_p0), (1, .int x_1), (2, .int x_2), (3, .long x_3'), (5, .int x_5'), (6, .int x_6')] [] (cl_X7_line T o_p0 a_p0 s_p0_finding s_p0_asked s_p0_newPoints s_p0_newLines s_p0_faultAt s_p0_tries s_p0_things s_p0_goals s_p0_level s_p0_findings s_p0_kinds s_p0_lineCount s_p0_lines s_p0_points s_p0_rows s_p0_sizes)) (h : w_X7_line_154 x_1 x_2 x_5 x_6 t_0 t_1 s_p0_finding s_p0_findings s_p0_kinds s_p0_lineCount s_p0_lines s_p0_points s_p0_rows s_p0_sizes K_86 Q) : V E 0 0 154 [(0, .ref o_p0), (1, .int x_1), (2, .int x_2), (5, .int x_5), (6, .int x_6)] [.long t_1, .long t_0] (cl_X7_line T o_p0 a_p0 s_p0_finding s_p0_asked s_p0_newPoints s_p0_newLines s_p0_faultAt s_p0_tries s_p0_things s_p0_goals s_p0_level s_p0_findings s_p0_kinds s_p0_lineCount s_p0_lines s_p0_points s_p0_rows s_p0_sizes) := by
  unfold w_X7_line_154 at h
  refine v_lor X dX7_line_154 ?_
  refine v_lstore_n X (lv' := [(3, .long (t_0 ||| t_1)), (0, .ref o_p0), (1, .int x_1), (2, .int x_2), (5, .int x_5), (6, .int x_6)]) dX7_line_155 rfl (by decide) rfl ?_
  refine v_iinc X (v := (x_6 + (1 : Int32))) (lv' := [(6, .int (x_6 + (1 : Int32))), (3, .long (t_0 ||| t_1)), (0, .ref o_p0), (1, .int x_1), (2, .int x_2), (5, .int x_5)]) 5 dX7_line_156 rfl rfl (by decide) rfl ?_
  refine v_goto X (tgt := 86) dX7_line_159 (by decide) ?_
  refine v_lv (lv' := [(0, .ref o_p0), (1, .int x_1), (2, .int x_2), (3, .long (t_0 ||| t_1)), (5, .int x_5), (6, .int (x_6 + (1 : Int32)))]) [2, 3, 4, 1, 5, 0] rfl ?_
  exact hK_86 _ _ _ h
set_option maxHeartbeats 4000000 in
set_option maxRecDepth 100000 in
theorem k_X7_line_138 {E : vE} {T : Nat → ClassId} {o_p0 : Nat} {a_p0 : Nat → Nat} {s_p0_finding : Int32} {s_p0_asked : Int64} {s_p0_newPoints : Int32} {s_p0_newLines : Int32} {s_p0_faultAt : Int64} {s_p0_tries : Int32} {s_p0_things : Int32} {s_p0_goals : Int32} {s_p0_level : Int32} {s_p0_findings : Nat → Int32} {s_p0_kinds : Nat → Int32} {s_p0_lineCount : Nat → Int32} {s_p0_lines : Nat → Int64} {s_p0_points : Nat → Int32} {s_p0_rows : Nat → Int32} {s_p0_sizes : Nat → Int32} {x_1 : Int32} {x_2 : Int32} {x_3 : Int64} {x_6 : Int32} {x_7 : Int32} {t_0 : Int32} {K_86 : (Int64) → (Int32) → (Int32) → Prop} {Q : Int32 → (Int32) → (Nat → Int32) → (Nat → Int32) → (Nat → Int64) → Prop} (X : vX E cX7_line 8 RX7 wsX7_line (vT T) (vr 2 42)) (r : r_X7_line E T o_p0 a_p0 s_p0_asked s_p0_newPoints s_p0_newLines s_p0_faultAt s_p0_tries s_p0_things s_p0_goals s_p0_level s_p0_kinds s_p0_points s_p0_rows s_p0_sizes Q) (hK_86 : ∀ (x_3' : Int64) (x_5' : Int32) (x_6' : Int32), K_86 x_3' x_5' x_6' → V E 0 0 86 [(0, .ref o_p0), (1, .int x_1), (2, .int x_2), (3, .long x_3'), (5, .int x_5'), (6, .int x_6')] [] (cl_X7_line T o_p0 a_p0 s_p0_finding s_p0_asked s_p0_newPoints s_p0_newLines s_p0_faultAt s_p0_tries s_p0_things s_p0_goals s_p0_level s_p0_findings s_p0_kinds s_p0_lineCount s_p0_lines s_p0_points s_p0_rows s_p0_sizes)) (h : w_X7_line_138 x_1 x_2 x_3 x_6 x_7 t_0 s_p0_finding s_p0_findings s_p0_kinds s_p0_lineCount s_p0_lines s_p0_points s_p0_rows s_p0_sizes K_86 Q) : V E 0 0 138 [(0, .ref o_p0), (1, .int x_1), (2, .int x_2), (3, .long x_3), (6, .int x_6), (7, .int x_7)] [.int t_0] (cl_X7_line T o_p0 a_p0 s_p0_finding s_p0_asked s_p0_newPoints s_p0_newLines s_p0_faultAt s_p0_tries s_p0_things s_p0_goals s_p0_level s_p0_findings s_p0_kinds s_p0_lineCount s_p0_lines s_p0_points s_p0_rows s_p0_sizes) := by
  unfold w_X7_line_138 at h
  refine v_istore X (lv' := [(5, .int t_0), (0, .ref o_p0), (1, .int x_1), (2, .int x_2), (3, .long x_3), (6, .int x_6), (7, .int x_7)]) dX7_line_138 (by decide) rfl ?_
  refine v_lload_n X 4 dX7_line_140 rfl rfl ?_
  refine v_iload X 0 dX7_line_141 rfl ?_
  refine v_if_eq X (tgt := 153) dX7_line_143 (by decide) (fun c_143 => ?_) (fun c_143 => ?_)
  · replace h := h.1 c_143
    refine v_lconst X dX7_line_153 (v := (0 : Int64)) (by decide) ?_
    refine v_lv (lv' := [(0, .ref o_p0), (1, .int x_1), (2, .int x_2), (5, .int t_0), (6, .int x_6)]) [1, 2, 3, 0, 5] rfl ?_
    exact k_X7_line_154 X r hK_86 h
  · replace h := h.2 c_143
    refine v_lconst X dX7_line_146 (v := (1 : Int64)) (by decide) ?_
    refine v_iload X 6 dX7_line_147 rfl ?_
    refine v_lshl X dX7_line_149 ?_
    refine v_goto X (tgt := 154) dX7_line_150 (by decide) ?_
    refine v_lv (lv' := [(0, .ref o_p0), (1, .int x_1), (2, .int x_2), (5, .int t_0), (6, .int x_6)]) [1, 2, 3, 0, 5] rfl ?_
    exact k_X7_line_154 X r hK_86 h
set_option maxHeartbeats 4000000 in
set_option maxRecDepth 100000 in
theorem k_X7_line_137 {E : vE} {T : Nat → ClassId} {o_p0 : Nat} {a_p0 : Nat → Nat} {s_p0_finding : Int32} {s_p0_asked : Int64} {s_p0_newPoints : Int32} {s_p0_newLines : Int32} {s_p0_faultAt : Int64} {s_p0_tries : Int32} {s_p0_things : Int32} {s_p0_goals : Int32} {s_p0_level : Int32} {s_p0_findings : Nat → Int32} {s_p0_kinds : Nat → Int32} {s_p0_lineCount : Nat → Int32} {s_p0_lines : Nat → Int64} {s_p0_points : Nat → Int32} {s_p0_rows : Nat → Int32} {s_p0_sizes : Nat → Int32} {x_1 : Int32} {x_2 : Int32} {x_3 : Int64} {x_6 : Int32} {x_7 : Int32} {K_86 : (Int64) → (Int32) → (Int32) → Prop} {Q : Int32 → (Int32) → (Nat → Int32) → (Nat → Int32) → (Nat → Int64) → Prop} (X : vX E cX7_line 8 RX7 wsX7_line (vT T) (vr 2 42)) (r : r_X7_line E T o_p0 a_p0 s_p0_asked s_p0_newPoints s_p0_newLines s_p0_faultAt s_p0_tries s_p0_things s_p0_goals s_p0_level s_p0_kinds s_p0_points s_p0_rows s_p0_sizes Q) (hK_86 : ∀ (x_3' : Int64) (x_5' : Int32) (x_6' : Int32), K_86 x_3' x_5' x_6' → V E 0 0 86 [(0, .ref o_p0), (1, .int x_1), (2, .int x_2), (3, .long x_3'), (5, .int x_5'), (6, .int x_6')] [] (cl_X7_line T o_p0 a_p0 s_p0_finding s_p0_asked s_p0_newPoints s_p0_newLines s_p0_faultAt s_p0_tries s_p0_things s_p0_goals s_p0_level s_p0_findings s_p0_kinds s_p0_lineCount s_p0_lines s_p0_points s_p0_rows s_p0_sizes)) (h : w_X7_line_137 x_1 x_2 x_3 x_6 x_7 s_p0_finding s_p0_findings s_p0_kinds s_p0_lineCount s_p0_lines s_p0_points s_p0_rows s_p0_sizes K_86 Q) : V E 0 0 137 [(0, .ref o_p0), (1, .int x_1), (2, .int x_2), (3, .long x_3), (6, .int x_6), (7, .int x_7)] [] (cl_X7_line T o_p0 a_p0 s_p0_finding s_p0_asked s_p0_newPoints s_p0_newLines s_p0_faultAt s_p0_tries s_p0_things s_p0_goals s_p0_level s_p0_findings s_p0_kinds s_p0_lineCount s_p0_lines s_p0_points s_p0_rows s_p0_sizes) := by
  unfold w_X7_line_137 at h
  refine v_iconst X dX7_line_137 (v := (0 : Int32)) (by decide) ?_
  exact k_X7_line_138 X r hK_86 h
set_option maxHeartbeats 4000000 in
set_option maxRecDepth 100000 in
theorem k_X7_line_86 {E : vE} {T : Nat → ClassId} {o_p0 : Nat} {a_p0 : Nat → Nat} {s_p0_finding : Int32} {s_p0_asked : Int64} {s_p0_newPoints : Int32} {s_p0_newLines : Int32} {s_p0_faultAt : Int64} {s_p0_tries : Int32} {s_p0_things : Int32} {s_p0_goals : Int32} {s_p0_level : Int32} {s_p0_findings : Nat → Int32} {s_p0_kinds : Nat → Int32} {s_p0_lineCount : Nat → Int32} {s_p0_lines : Nat → Int64} {s_p0_points : Nat → Int32} {s_p0_rows : Nat → Int32} {s_p0_sizes : Nat → Int32} {x_1 : Int32} {x_2 : Int32} {Q : Int32 → (Int32) → (Nat → Int32) → (Nat → Int32) → (Nat → Int64) → Prop} (X : vX E cX7_line 8 RX7 wsX7_line (vT T) (vr 2 42)) (r : r_X7_line E T o_p0 a_p0 s_p0_asked s_p0_newPoints s_p0_newLines s_p0_faultAt s_p0_tries s_p0_things s_p0_goals s_p0_level s_p0_kinds s_p0_points s_p0_rows s_p0_sizes Q) : ∀ (n_ : Nat) (x_3 : Int64) (x_5 : Int32) (x_6 : Int32), w_X7_line_86 x_1 x_2 s_p0_finding s_p0_findings s_p0_kinds s_p0_lineCount s_p0_lines s_p0_points s_p0_rows s_p0_sizes Q n_ x_3 x_5 x_6 → V E 0 0 86 [(0, .ref o_p0), (1, .int x_1), (2, .int x_2), (3, .long x_3), (5, .int x_5), (6, .int x_6)] [] (cl_X7_line T o_p0 a_p0 s_p0_finding s_p0_asked s_p0_newPoints s_p0_newLines s_p0_faultAt s_p0_tries s_p0_things s_p0_goals s_p0_level s_p0_findings s_p0_kinds s_p0_lineCount s_p0_lines s_p0_points s_p0_rows s_p0_sizes) := by
  intro n_
  induction n_ with
  | zero => intro x_3 x_5 x_6 h; exact h.elim
  | succ n_ hK_86 =>
    intro x_3 x_5 x_6 h
    replace h : w_X7_line_86s x_1 x_2 s_p0_finding s_p0_findings s_p0_kinds s_p0_lineCount s_p0_lines s_p0_points s_p0_rows s_p0_sizes Q (w_X7_line_86 x_1 x_2 s_p0_finding s_p0_findings s_p0_kinds s_p0_lineCount s_p0_lines s_p0_points s_p0_rows s_p0_sizes Q n_) x_3 x_5 x_6 := h
    unfold w_X7_line_86s at h
    refine v_iload X 5 dX7_line_86 rfl ?_
    refine v_aload_n X 0 dX7_line_88 rfl rfl ?_
    refine v_get X 0 30 (F := TX7) (N := 33) iX7_line_X7 rfl rfl (by decide) (List.mem_of_getElem? (i := 3) rfl) rfl rfl dX7_line_89 ?_
    refine v_iload_n X 2 dX7_line_92 rfl rfl ?_
    refine v_iald X 7 0 rfl rfl h.1 dX7_line_93 ?_
    replace h := h.2
    refine v_icmp_ge X (tgt := 162) dX7_line_94 (by decide) (fun c_94 => ?_) (fun c_94 => ?_)
    · replace h := h.1 c_94
      refine v_iload X 4 dX7_line_162 rfl ?_
      refine v_if_ne X (tgt := 173) dX7_line_164 (by decide) (fun c_164 => ?_) (fun c_164 => ?_)
      · replace h := h.1 c_164
        refine v_lload_n X 3 dX7_line_173 rfl rfl ?_
        refine v_callSi0 X (As := [.long x_3]) (rest := []) 1 (c_X7_bits (l := vl E) (D := vD E) (T := T) (x_0 := x_3) h) gX7_line_X7_bits rfl rfl (by decide +kernel) ⟨Nat.zero_le _, Nat.zero_le _⟩ ⟨rfl, rfl, by decide, by decide⟩ (Nat.le_of_ble_eq_true rfl) rfl dX7_line_174 (fun r_174 h => ?_)
        refine v_iconst X dX7_line_177 (v := (2 : Int32)) (by decide) ?_
        refine v_icmp_ge X (tgt := 187) dX7_line_178 (by decide) (fun c_178 => ?_) (fun c_178 => ?_)
        · replace h := h.1 c_178
          refine v_aload_n X 0 dX7_line_187 rfl rfl ?_
          refine v_get X 0 7 (F := TX7) (N := 33) iX7_line_X7 rfl rfl (by decide) (List.mem_of_getElem? (i := 6) rfl) rfl rfl dX7_line_188 ?_
          refine v_bipush X dX7_line_191 (v := (45 : Int32)) (by decide) ?_
          refine v_iload_n X 1 dX7_line_193 rfl rfl ?_
          refine v_imul X dX7_line_194 ?_
          refine v_aload_n X 0 dX7_line_195 rfl rfl ?_
          refine v_get X 0 4 (F := TX7) (N := 33) iX7_line_X7 rfl rfl (by decide) (List.mem_of_getElem? (i := 2) rfl) rfl rfl dX7_line_196 ?_
          refine v_iload_n X 1 dX7_line_199 rfl rfl ?_
          refine v_iald X 3 0 rfl rfl h.1 dX7_line_200 ?_
          replace h := h.2
          refine v_iadd X dX7_line_201 ?_
          refine v_lload_n X 3 dX7_line_202 rfl rfl ?_
          refine v_last X (ws' := (cl_X7_line T o_p0 a_p0 s_p0_finding s_p0_asked s_p0_newPoints s_p0_newLines s_p0_faultAt s_p0_tries s_p0_things s_p0_goals s_p0_level s_p0_findings s_p0_kinds s_p0_lineCount (vp_updL s_p0_lines ((((45 : Int32) * x_1) + (s_p0_lineCount (x_1).toNatClampNeg))).toNatClampNeg x_3) s_p0_points s_p0_rows s_p0_sizes)) 4 1 rfl rfl h.1 rfl dX7_line_203 ?_
          replace h := h.2
          refine v_aload_n X 0 dX7_line_204 rfl rfl ?_
          refine v_get X 0 4 (F := TX7) (N := 33) iX7_line_X7 rfl rfl (by decide) (List.mem_of_getElem? (i := 2) rfl) rfl rfl dX7_line_205 ?_
          refine v_iload_n X 1 dX7_line_208 rfl rfl ?_
          refine v_dup2_11 X dX7_line_209 rfl rfl ?_
          refine v_iald X 3 0 rfl rfl h.1 dX7_line_210 ?_
          replace h := h.2
          refine v_iconst X dX7_line_211 (v := (1 : Int32)) (by decide) ?_
          refine v_iadd X dX7_line_212 ?_
          refine v_iast X (ws' := (cl_X7_line T o_p0 a_p0 s_p0_finding s_p0_asked s_p0_newPoints s_p0_newLines s_p0_faultAt s_p0_tries s_p0_things s_p0_goals s_p0_level s_p0_findings s_p0_kinds (upd s_p0_lineCount (x_1).toNatClampNeg ((s_p0_lineCount (x_1).toNatClampNeg) + (1 : Int32))) (vp_updL s_p0_lines ((((45 : Int32) * x_1) + (s_p0_lineCount (x_1).toNatClampNeg))).toNatClampNeg x_3) s_p0_points s_p0_rows s_p0_sizes)) 3 0 rfl rfl h.1 rfl dX7_line_213 ?_
          replace h := h.2
          refine v_aload_n X 0 dX7_line_214 rfl rfl ?_
          refine v_get X 0 4 (F := TX7) (N := 33) iX7_line_X7 rfl rfl (by decide) (List.mem_of_getElem? (i := 2) rfl) rfl rfl dX7_line_215 ?_
          refine v_iload_n X 1 dX7_line_218 rfl rfl ?_
          refine v_iald X 3 0 rfl rfl h.1 dX7_line_219 ?_
          replace h := h.2
          refine v_iconst X dX7_line_220 (v := (1 : Int32)) (by decide) ?_
          refine v_isub X dX7_line_221 ?_
          exact r _ _ _ (s_p0_finding, s_p0_findings, (upd s_p0_lineCount (x_1).toNatClampNeg ((s_p0_lineCount (x_1).toNatClampNeg) + (1 : Int32))), (vp_updL s_p0_lines ((((45 : Int32) * x_1) + (s_p0_lineCount (x_1).toNatClampNeg))).toNatClampNeg x_3)) _ dX7_line_222 h rfl
        · replace h := h.2 c_178
          refine v_aload_n X 0 dX7_line_181 rfl rfl ?_
          refine v_iconst X dX7_line_182 (v := (5 : Int32)) (by decide) ?_
          refine v_callVi X (As := [.int (5 : Int32)]) (rest := []) 1 0 (c_X7_meets (l := vl E) (D := vD E) (T := T) (o_p0 := o_p0) (a_p0 := a_p0) (s_p0_finding := s_p0_finding) (s_p0_asked := s_p0_asked) (s_p0_newPoints := s_p0_newPoints) (s_p0_newLines := s_p0_newLines) (s_p0_faultAt := s_p0_faultAt) (s_p0_tries := s_p0_tries) (s_p0_things := s_p0_things) (s_p0_goals := s_p0_goals) (s_p0_level := s_p0_level) (s_p0_findings := s_p0_findings) (x_1 := (5 : Int32)) h) gX7_line_X7_meets rfl rfl (by decide +kernel) ⟨Nat.zero_le _, Nat.zero_le _⟩ ⟨rfl, rfl, by decide, by decide⟩ (Nat.le_of_ble_eq_true rfl) rfl rfl (wr := [vI T (a_p0 5) 6 s_p0_kinds, vI T (a_p0 4) 6 s_p0_lineCount, vJ T (a_p0 7) 270 s_p0_lines, vI T (a_p0 3) 6 s_p0_points, vI T (a_p0 31) 48 s_p0_rows, vI T (a_p0 30) 4 s_p0_sizes]) [0, 1] [2, 3, 4, 5, 6, 7] rfl rfl rfl rfl (by decide) rfl dX7_line_183 (fun r_183 u h => ?_)
          obtain ⟨u_183_0, u_183_1⟩ := u
          dsimp only at h
          refine v_ws (ws' := (cl_X7_line T o_p0 a_p0 u_183_0 s_p0_asked s_p0_newPoints s_p0_newLines s_p0_faultAt s_p0_tries s_p0_things s_p0_goals s_p0_level u_183_1 s_p0_kinds s_p0_lineCount s_p0_lines s_p0_points s_p0_rows s_p0_sizes)) [6, 7, 0, 1, 2, 3, 4, 5] rfl rfl ?_
          exact r _ _ _ (u_183_0, u_183_1, s_p0_lineCount, s_p0_lines) _ dX7_line_186 h rfl
      · replace h := h.2 c_164
        refine v_aload_n X 0 dX7_line_167 rfl rfl ?_
        refine v_iconst X dX7_line_168 (v := (2 : Int32)) (by decide) ?_
        refine v_callVi X (As := [.int (2 : Int32)]) (rest := []) 1 0 (c_X7_meets (l := vl E) (D := vD E) (T := T) (o_p0 := o_p0) (a_p0 := a_p0) (s_p0_finding := s_p0_finding) (s_p0_asked := s_p0_asked) (s_p0_newPoints := s_p0_newPoints) (s_p0_newLines := s_p0_newLines) (s_p0_faultAt := s_p0_faultAt) (s_p0_tries := s_p0_tries) (s_p0_things := s_p0_things) (s_p0_goals := s_p0_goals) (s_p0_level := s_p0_level) (s_p0_findings := s_p0_findings) (x_1 := (2 : Int32)) h) gX7_line_X7_meets rfl rfl (by decide +kernel) ⟨Nat.zero_le _, Nat.zero_le _⟩ ⟨rfl, rfl, by decide, by decide⟩ (Nat.le_of_ble_eq_true rfl) rfl rfl (wr := [vI T (a_p0 5) 6 s_p0_kinds, vI T (a_p0 4) 6 s_p0_lineCount, vJ T (a_p0 7) 270 s_p0_lines, vI T (a_p0 3) 6 s_p0_points, vI T (a_p0 31) 48 s_p0_rows, vI T (a_p0 30) 4 s_p0_sizes]) [0, 1] [2, 3, 4, 5, 6, 7] rfl rfl rfl rfl (by decide) rfl dX7_line_169 (fun r_169 u h => ?_)
        obtain ⟨u_169_0, u_169_1⟩ := u
        dsimp only at h
        refine v_ws (ws' := (cl_X7_line T o_p0 a_p0 u_169_0 s_p0_asked s_p0_newPoints s_p0_newLines s_p0_faultAt s_p0_tries s_p0_things s_p0_goals s_p0_level u_169_1 s_p0_kinds s_p0_lineCount s_p0_lines s_p0_points s_p0_rows s_p0_sizes)) [6, 7, 0, 1, 2, 3, 4, 5] rfl rfl ?_
        exact r _ _ _ (u_169_0, u_169_1, s_p0_lineCount, s_p0_lines) _ dX7_line_172 h rfl
    · replace h := h.2 c_94
      refine v_aload_n X 0 dX7_line_97 rfl rfl ?_
      refine v_get X 0 31 (F := TX7) (N := 33) iX7_line_X7 rfl rfl (by decide) (List.mem_of_getElem? (i := 5) rfl) rfl rfl dX7_line_98 ?_
      refine v_bipush X dX7_line_101 (v := (12 : Int32)) (by decide) ?_
      refine v_iload_n X 2 dX7_line_103 rfl rfl ?_
      refine v_imul X dX7_line_104 ?_
      refine v_iload X 5 dX7_line_105 rfl ?_
      refine v_iadd X dX7_line_107 ?_
      refine v_iald X 6 0 rfl rfl h.1 dX7_line_108 ?_
      replace h := h.2
      refine v_istore X (lv' := [(7, .int (s_p0_rows ((((12 : Int32) * x_2) + x_6)).toNatClampNeg)), (0, .ref o_p0), (1, .int x_1), (2, .int x_2), (3, .long x_3), (5, .int x_5), (6, .int x_6)]) dX7_line_109 (by decide) rfl ?_
      refine v_iload X 5 dX7_line_111 rfl ?_
      refine v_if_eq X (tgt := 137) dX7_line_113 (by decide) (fun c_113 => ?_) (fun c_113 => ?_)
      · replace h := h.1 c_113
        refine v_lv (lv' := [(0, .ref o_p0), (1, .int x_1), (2, .int x_2), (3, .long x_3), (6, .int x_6), (7, .int (s_p0_rows ((((12 : Int32) * x_2) + x_6)).toNatClampNeg))]) [1, 2, 3, 4, 6, 0] rfl ?_
        exact k_X7_line_137 X r hK_86 h
      · replace h := h.2 c_113
        refine v_iload X 0 dX7_line_116 rfl ?_
        refine v_iconst X dX7_line_118 (v := (0 : Int32)) (by decide) ?_
        refine v_aload_n X 1 dX7_line_119 rfl rfl ?_
        refine v_get X 0 3 (F := TX7) (N := 33) iX7_line_X7 rfl rfl (by decide) (List.mem_of_getElem? (i := 1) rfl) rfl rfl dX7_line_120 ?_
        refine v_iload_n X 2 dX7_line_123 rfl rfl ?_
        refine v_iald X 5 0 rfl rfl h.1 dX7_line_124 ?_
        replace h := h.2
        refine v_iconst X dX7_line_125 (v := (1 : Int32)) (by decide) ?_
        refine v_isub X dX7_line_126 ?_
        refine v_callSi0 X (As := [.int (s_p0_rows ((((12 : Int32) * x_2) + x_6)).toNatClampNeg), .int (0 : Int32), .int ((s_p0_points (x_1).toNatClampNeg) - (1 : Int32))]) (rest := []) 3 (c_X7_in (l := vl E) (D := vD E) (T := T) (x_0 := (s_p0_rows ((((12 : Int32) * x_2) + x_6)).toNatClampNeg)) (x_1 := (0 : Int32)) (x_2 := ((s_p0_points (x_1).toNatClampNeg) - (1 : Int32))) h) gX7_line_X7_in rfl rfl (by decide +kernel) ⟨Nat.zero_le _, Nat.zero_le _⟩ ⟨rfl, rfl, by decide, by decide⟩ (Nat.le_of_ble_eq_true rfl) rfl dX7_line_127 (fun r_127 h => ?_)
        refine v_if_eq X (tgt := 137) dX7_line_130 (by decide) (fun c_130 => ?_) (fun c_130 => ?_)
        · replace h := h.1 c_130
          refine v_lv (lv' := [(0, .ref o_p0), (1, .int x_1), (2, .int x_2), (3, .long x_3), (6, .int x_6), (7, .int (s_p0_rows ((((12 : Int32) * x_2) + x_6)).toNatClampNeg))]) [1, 2, 3, 4, 6, 0] rfl ?_
          exact k_X7_line_137 X r hK_86 h
        · replace h := h.2 c_130
          refine v_iconst X dX7_line_133 (v := (1 : Int32)) (by decide) ?_
          refine v_goto X (tgt := 138) dX7_line_134 (by decide) ?_
          refine v_lv (lv' := [(0, .ref o_p0), (1, .int x_1), (2, .int x_2), (3, .long x_3), (6, .int x_6), (7, .int (s_p0_rows ((((12 : Int32) * x_2) + x_6)).toNatClampNeg))]) [1, 2, 3, 4, 6, 0] rfl ?_
          exact k_X7_line_138 X r hK_86 h
set_option maxHeartbeats 4000000 in
set_option maxRecDepth 100000 in
theorem k_X7_line_57 {E : vE} {T : Nat → ClassId} {o_p0 : Nat} {a_p0 : Nat → Nat} {s_p0_finding : Int32} {s_p0_asked : Int64} {s_p0_newPoints : Int32} {s_p0_newLines : Int32} {s_p0_faultAt : Int64} {s_p0_tries : Int32} {s_p0_things : Int32} {s_p0_goals : Int32} {s_p0_level : Int32} {s_p0_findings : Nat → Int32} {s_p0_kinds : Nat → Int32} {s_p0_lineCount : Nat → Int32} {s_p0_lines : Nat → Int64} {s_p0_points : Nat → Int32} {s_p0_rows : Nat → Int32} {s_p0_sizes : Nat → Int32} {Q : Int32 → (Int32) → (Nat → Int32) → (Nat → Int32) → (Nat → Int64) → Prop} (X : vX E cX7_line 8 RX7 wsX7_line (vT T) (vr 2 42)) (r : r_X7_line E T o_p0 a_p0 s_p0_asked s_p0_newPoints s_p0_newLines s_p0_faultAt s_p0_tries s_p0_things s_p0_goals s_p0_level s_p0_kinds s_p0_points s_p0_rows s_p0_sizes Q) (h : w_X7_line_57 s_p0_finding s_p0_findings s_p0_kinds s_p0_lineCount s_p0_lines s_p0_points s_p0_rows s_p0_sizes Q) : V E 0 0 57 [(0, .ref o_p0)] [] (cl_X7_line T o_p0 a_p0 s_p0_finding s_p0_asked s_p0_newPoints s_p0_newLines s_p0_faultAt s_p0_tries s_p0_things s_p0_goals s_p0_level s_p0_findings s_p0_kinds s_p0_lineCount s_p0_lines s_p0_points s_p0_rows s_p0_sizes) := by
  unfold w_X7_line_57 at h
  refine v_aload_n X 0 dX7_line_57 rfl rfl ?_
  refine v_iconst X dX7_line_58 (v := (1 : Int32)) (by decide) ?_
  refine v_callVi X (As := [.int (1 : Int32)]) (rest := []) 1 0 (c_X7_meets (l := vl E) (D := vD E) (T := T) (o_p0 := o_p0) (a_p0 := a_p0) (s_p0_finding := s_p0_finding) (s_p0_asked := s_p0_asked) (s_p0_newPoints := s_p0_newPoints) (s_p0_newLines := s_p0_newLines) (s_p0_faultAt := s_p0_faultAt) (s_p0_tries := s_p0_tries) (s_p0_things := s_p0_things) (s_p0_goals := s_p0_goals) (s_p0_level := s_p0_level) (s_p0_findings := s_p0_findings) (x_1 := (1 : Int32)) h) gX7_line_X7_meets rfl rfl (by decide +kernel) ⟨Nat.zero_le _, Nat.zero_le _⟩ ⟨rfl, rfl, by decide, by decide⟩ (Nat.le_of_ble_eq_true rfl) rfl rfl (wr := [vI T (a_p0 5) 6 s_p0_kinds, vI T (a_p0 4) 6 s_p0_lineCount, vJ T (a_p0 7) 270 s_p0_lines, vI T (a_p0 3) 6 s_p0_points, vI T (a_p0 31) 48 s_p0_rows, vI T (a_p0 30) 4 s_p0_sizes]) [0, 1] [2, 3, 4, 5, 6, 7] rfl rfl rfl rfl (by decide) rfl dX7_line_59 (fun r_59 u h => ?_)
  obtain ⟨u_59_0, u_59_1⟩ := u
  dsimp only at h
  refine v_ws (ws' := (cl_X7_line T o_p0 a_p0 u_59_0 s_p0_asked s_p0_newPoints s_p0_newLines s_p0_faultAt s_p0_tries s_p0_things s_p0_goals s_p0_level u_59_1 s_p0_kinds s_p0_lineCount s_p0_lines s_p0_points s_p0_rows s_p0_sizes)) [6, 7, 0, 1, 2, 3, 4, 5] rfl rfl ?_
  exact r _ _ _ (u_59_0, u_59_1, s_p0_lineCount, s_p0_lines) _ dX7_line_62 h rfl
set_option maxHeartbeats 4000000 in
set_option maxRecDepth 100000 in
theorem k_X7_line_39 {E : vE} {T : Nat → ClassId} {o_p0 : Nat} {a_p0 : Nat → Nat} {s_p0_finding : Int32} {s_p0_asked : Int64} {s_p0_newPoints : Int32} {s_p0_newLines : Int32} {s_p0_faultAt : Int64} {s_p0_tries : Int32} {s_p0_things : Int32} {s_p0_goals : Int32} {s_p0_level : Int32} {s_p0_findings : Nat → Int32} {s_p0_kinds : Nat → Int32} {s_p0_lineCount : Nat → Int32} {s_p0_lines : Nat → Int64} {s_p0_points : Nat → Int32} {s_p0_rows : Nat → Int32} {s_p0_sizes : Nat → Int32} {x_1 : Int32} {x_2 : Int32} {Q : Int32 → (Int32) → (Nat → Int32) → (Nat → Int32) → (Nat → Int64) → Prop} (X : vX E cX7_line 8 RX7 wsX7_line (vT T) (vr 2 42)) (r : r_X7_line E T o_p0 a_p0 s_p0_asked s_p0_newPoints s_p0_newLines s_p0_faultAt s_p0_tries s_p0_things s_p0_goals s_p0_level s_p0_kinds s_p0_points s_p0_rows s_p0_sizes Q) (h : w_X7_line_39 x_1 x_2 s_p0_finding s_p0_findings s_p0_kinds s_p0_lineCount s_p0_lines s_p0_points s_p0_rows s_p0_sizes Q) : V E 0 0 39 [(0, .ref o_p0), (1, .int x_1), (2, .int x_2)] [] (cl_X7_line T o_p0 a_p0 s_p0_finding s_p0_asked s_p0_newPoints s_p0_newLines s_p0_faultAt s_p0_tries s_p0_things s_p0_goals s_p0_level s_p0_findings s_p0_kinds s_p0_lineCount s_p0_lines s_p0_points s_p0_rows s_p0_sizes) := by
  unfold w_X7_line_39 at h
  refine v_aload_n X 0 dX7_line_39 rfl rfl ?_
  refine v_get X 0 3 (F := TX7) (N := 33) iX7_line_X7 rfl rfl (by decide) (List.mem_of_getElem? (i := 1) rfl) rfl rfl dX7_line_40 ?_
  refine v_iload_n X 1 dX7_line_43 rfl rfl ?_
  refine v_iald X 5 0 rfl rfl h.1 dX7_line_44 ?_
  replace h := h.2
  refine v_if_eq X (tgt := 57) dX7_line_45 (by decide) (fun c_45 => ?_) (fun c_45 => ?_)
  · replace h := h.1 c_45
    refine v_lv (lv' := [(0, .ref o_p0)]) [0] rfl ?_
    exact k_X7_line_57 X r h
  · replace h := h.2 c_45
    refine v_aload_n X 0 dX7_line_48 rfl rfl ?_
    refine v_get X 0 30 (F := TX7) (N := 33) iX7_line_X7 rfl rfl (by decide) (List.mem_of_getElem? (i := 3) rfl) rfl rfl dX7_line_49 ?_
    refine v_iload_n X 2 dX7_line_52 rfl rfl ?_
    refine v_iald X 7 0 rfl rfl h.1 dX7_line_53 ?_
    replace h := h.2
    refine v_if_ge X (tgt := 63) dX7_line_54 (by decide) (fun c_54 => ?_) (fun c_54 => ?_)
    · replace h := h.1 c_54
      refine v_aload_n X 0 dX7_line_63 rfl rfl ?_
      refine v_get X 0 5 (F := TX7) (N := 33) iX7_line_X7 rfl rfl (by decide) (List.mem_of_getElem? (i := 4) rfl) rfl rfl dX7_line_64 ?_
      refine v_iload_n X 1 dX7_line_67 rfl rfl ?_
      refine v_iald X 2 0 rfl rfl h.1 dX7_line_68 ?_
      replace h := h.2
      refine v_if_eq X (tgt := 78) dX7_line_69 (by decide) (fun c_69 => ?_) (fun c_69 => ?_)
      · replace h := h.1 c_69
        refine v_lconst X dX7_line_78 (v := (0 : Int64)) (by decide) ?_
        refine v_lstore_n X (lv' := [(3, .long (0 : Int64)), (0, .ref o_p0), (1, .int x_1), (2, .int x_2)]) dX7_line_79 rfl (by decide) rfl ?_
        refine v_iconst X dX7_line_80 (v := (1 : Int32)) (by decide) ?_
        refine v_istore X (lv' := [(5, .int (1 : Int32)), (3, .long (0 : Int64)), (0, .ref o_p0), (1, .int x_1), (2, .int x_2)]) dX7_line_81 (by decide) rfl ?_
        refine v_iconst X dX7_line_83 (v := (0 : Int32)) (by decide) ?_
        refine v_istore X (lv' := [(6, .int (0 : Int32)), (5, .int (1 : Int32)), (3, .long (0 : Int64)), (0, .ref o_p0), (1, .int x_1), (2, .int x_2)]) dX7_line_84 (by decide) rfl ?_
        refine v_lv (lv' := [(0, .ref o_p0), (1, .int x_1), (2, .int x_2), (3, .long (0 : Int64)), (5, .int (1 : Int32)), (6, .int (0 : Int32))]) [3, 4, 5, 2, 1, 0] rfl ?_
        obtain ⟨n_, h⟩ := h
        exact k_X7_line_86 X r n_ _ _ _ h
      · replace h := h.2 c_69
        refine v_aload_n X 0 dX7_line_72 rfl rfl ?_
        refine v_iconst X dX7_line_73 (v := (3 : Int32)) (by decide) ?_
        refine v_callVi X (As := [.int (3 : Int32)]) (rest := []) 1 0 (c_X7_meets (l := vl E) (D := vD E) (T := T) (o_p0 := o_p0) (a_p0 := a_p0) (s_p0_finding := s_p0_finding) (s_p0_asked := s_p0_asked) (s_p0_newPoints := s_p0_newPoints) (s_p0_newLines := s_p0_newLines) (s_p0_faultAt := s_p0_faultAt) (s_p0_tries := s_p0_tries) (s_p0_things := s_p0_things) (s_p0_goals := s_p0_goals) (s_p0_level := s_p0_level) (s_p0_findings := s_p0_findings) (x_1 := (3 : Int32)) h) gX7_line_X7_meets rfl rfl (by decide +kernel) ⟨Nat.zero_le _, Nat.zero_le _⟩ ⟨rfl, rfl, by decide, by decide⟩ (Nat.le_of_ble_eq_true rfl) rfl rfl (wr := [vI T (a_p0 5) 6 s_p0_kinds, vI T (a_p0 4) 6 s_p0_lineCount, vJ T (a_p0 7) 270 s_p0_lines, vI T (a_p0 3) 6 s_p0_points, vI T (a_p0 31) 48 s_p0_rows, vI T (a_p0 30) 4 s_p0_sizes]) [0, 1] [2, 3, 4, 5, 6, 7] rfl rfl rfl rfl (by decide) rfl dX7_line_74 (fun r_74 u h => ?_)
        obtain ⟨u_74_0, u_74_1⟩ := u
        dsimp only at h
        refine v_ws (ws' := (cl_X7_line T o_p0 a_p0 u_74_0 s_p0_asked s_p0_newPoints s_p0_newLines s_p0_faultAt s_p0_tries s_p0_things s_p0_goals s_p0_level u_74_1 s_p0_kinds s_p0_lineCount s_p0_lines s_p0_points s_p0_rows s_p0_sizes)) [6, 7, 0, 1, 2, 3, 4, 5] rfl rfl ?_
        exact r _ _ _ (u_74_0, u_74_1, s_p0_lineCount, s_p0_lines) _ dX7_line_77 h rfl
    · replace h := h.2 c_54
      refine v_lv (lv' := [(0, .ref o_p0)]) [0] rfl ?_
      exact k_X7_line_57 X r h
set_option maxHeartbeats 4000000 in
set_option maxRecDepth 100000 in
theorem k_X7_line_14 {E : vE} {T : Nat → ClassId} {o_p0 : Nat} {a_p0 : Nat → Nat} {s_p0_finding : Int32} {s_p0_asked : Int64} {s_p0_newPoints : Int32} {s_p0_newLines : Int32} {s_p0_faultAt : Int64} {s_p0_tries : Int32} {s_p0_things : Int32} {s_p0_goals : Int32} {s_p0_level : Int32} {s_p0_findings : Nat → Int32} {s_p0_kinds : Nat → Int32} {s_p0_lineCount : Nat → Int32} {s_p0_lines : Nat → Int64} {s_p0_points : Nat → Int32} {s_p0_rows : Nat → Int32} {s_p0_sizes : Nat → Int32} {Q : Int32 → (Int32) → (Nat → Int32) → (Nat → Int32) → (Nat → Int64) → Prop} (X : vX E cX7_line 8 RX7 wsX7_line (vT T) (vr 2 42)) (r : r_X7_line E T o_p0 a_p0 s_p0_asked s_p0_newPoints s_p0_newLines s_p0_faultAt s_p0_tries s_p0_things s_p0_goals s_p0_level s_p0_kinds s_p0_points s_p0_rows s_p0_sizes Q) (h : w_X7_line_14 s_p0_finding s_p0_findings s_p0_kinds s_p0_lineCount s_p0_lines s_p0_points s_p0_rows s_p0_sizes Q) : V E 0 0 14 [] [] (cl_X7_line T o_p0 a_p0 s_p0_finding s_p0_asked s_p0_newPoints s_p0_newLines s_p0_faultAt s_p0_tries s_p0_things s_p0_goals s_p0_level s_p0_findings s_p0_kinds s_p0_lineCount s_p0_lines s_p0_points s_p0_rows s_p0_sizes) := by
  unfold w_X7_line_14 at h
  refine v_iconst X dX7_line_14 (v := (-1 : Int32)) (by decide) ?_
  exact r _ _ _ (s_p0_finding, s_p0_findings, s_p0_lineCount, s_p0_lines) _ dX7_line_15 h rfl
set_option maxHeartbeats 4000000 in
set_option maxRecDepth 100000 in
theorem c_X7_line {l : Launch} {D : va_G} {T : Nat → ClassId} {o_p0 : Nat} {a_p0 : Nat → Nat} {s_p0_finding : Int32} {s_p0_asked : Int64} {s_p0_newPoints : Int32} {s_p0_newLines : Int32} {s_p0_faultAt : Int64} {s_p0_tries : Int32} {s_p0_things : Int32} {s_p0_goals : Int32} {s_p0_level : Int32} {s_p0_findings : Nat → Int32} {s_p0_kinds : Nat → Int32} {s_p0_lineCount : Nat → Int32} {s_p0_lines : Nat → Int64} {s_p0_points : Nat → Int32} {s_p0_rows : Nat → Int32} {s_p0_sizes : Nat → Int32} {x_1 : Int32} {x_2 : Int32} {Q : Int32 → (Int32) → (Nat → Int32) → (Nat → Int32) → (Nat → Int64) → Prop} (h : w_X7_line x_1 x_2 s_p0_finding s_p0_findings s_p0_kinds s_p0_lineCount s_p0_lines s_p0_points s_p0_rows s_p0_sizes Q) : vCi l D (vT T) yX7_line wsX7_line (vr 2 42) [.ref o_p0, .int x_1, .int x_2] (cl_X7_line T o_p0 a_p0 s_p0_finding s_p0_asked s_p0_newPoints s_p0_newLines s_p0_faultAt s_p0_tries s_p0_things s_p0_goals s_p0_level s_p0_findings s_p0_kinds s_p0_lineCount s_p0_lines s_p0_points s_p0_rows s_p0_sizes) (fun v (u : (Int32) × (Nat → Int32) × (Nat → Int32) × (Nat → Int64)) => Q v u.1 u.2.1 u.2.2.1 u.2.2.2) (fun (u : (Int32) × (Nat → Int32) × (Nat → Int32) × (Nat → Int64)) => (cl_X7_line T o_p0 a_p0 u.1 s_p0_asked s_p0_newPoints s_p0_newLines s_p0_faultAt s_p0_tries s_p0_things s_p0_goals s_p0_level u.2.1 s_p0_kinds u.2.2.1 u.2.2.2 s_p0_points s_p0_rows s_p0_sizes)) := by
  refine vC_i (cc := cX7_line) (nL := 8) (by decide +kernel) rfl ⟨rfl, rfl⟩ (Nat.le_of_ble_eq_true rfl) rfl ?_
  intro E el eD X r
  unfold w_X7_line at h
  refine v_iload_n X 1 dX7_line_0 rfl rfl ?_
  refine v_callSi0 X (As := [.int x_1]) (rest := []) 1 (c_X7_isNumber (l := vl E) (D := vD E) (T := T) (x_0 := x_1) h) gX7_line_X7_isNumber rfl rfl (by decide +kernel) ⟨Nat.zero_le _, Nat.zero_le _⟩ ⟨rfl, rfl, by decide, by decide⟩ (Nat.le_of_ble_eq_true rfl) rfl dX7_line_1 (fun r_1 h => ?_)
  refine v_if_eq X (tgt := 14) dX7_line_4 (by decide) (fun c_4 => ?_) (fun c_4 => ?_)
  · replace h := h.1 c_4
    refine v_lv (lv' := []) [] rfl ?_
    exact k_X7_line_14 X r h
  · replace h := h.2 c_4
    refine v_iload_n X 2 dX7_line_7 rfl rfl ?_
    refine v_callSi0 X (As := [.int x_2]) (rest := []) 1 (c_X7_isRow (l := vl E) (D := vD E) (T := T) (x_0 := x_2) h) gX7_line_X7_isRow rfl rfl (by decide +kernel) ⟨Nat.zero_le _, Nat.zero_le _⟩ ⟨rfl, rfl, by decide, by decide⟩ (Nat.le_of_ble_eq_true rfl) rfl dX7_line_8 (fun r_8 h => ?_)
    refine v_if_ne X (tgt := 16) dX7_line_11 (by decide) (fun c_11 => ?_) (fun c_11 => ?_)
    · replace h := h.1 c_11
      refine v_aload_n X 0 dX7_line_16 rfl rfl ?_
      refine v_get X 0 3 (F := TX7) (N := 33) iX7_line_X7 rfl rfl (by decide) (List.mem_of_getElem? (i := 1) rfl) rfl rfl dX7_line_17 ?_
      refine v_iload_n X 1 dX7_line_20 rfl rfl ?_
      refine v_iald X 5 0 rfl rfl h.1 dX7_line_21 ?_
      replace h := h.2
      refine v_if_le X (tgt := 39) dX7_line_22 (by decide) (fun c_22 => ?_) (fun c_22 => ?_)
      · replace h := h.1 c_22
        exact k_X7_line_39 X r h
      · replace h := h.2 c_22
        refine v_aload_n X 0 dX7_line_25 rfl rfl ?_
        refine v_get X 0 4 (F := TX7) (N := 33) iX7_line_X7 rfl rfl (by decide) (List.mem_of_getElem? (i := 2) rfl) rfl rfl dX7_line_26 ?_
        refine v_iload_n X 1 dX7_line_29 rfl rfl ?_
        refine v_iald X 3 0 rfl rfl h.1 dX7_line_30 ?_
        replace h := h.2
        refine v_bipush X dX7_line_31 (v := (45 : Int32)) (by decide) ?_
        refine v_icmp_ne X (tgt := 39) dX7_line_33 (by decide) (fun c_33 => ?_) (fun c_33 => ?_)
        · replace h := h.1 c_33
          exact k_X7_line_39 X r h
        · replace h := h.2 c_33
          refine v_bipush X dX7_line_36 (v := (-2 : Int32)) (by decide) ?_
          exact r _ _ _ (s_p0_finding, s_p0_findings, s_p0_lineCount, s_p0_lines) _ dX7_line_38 h rfl
    · replace h := h.2 c_11
      refine v_lv (lv' := []) [] rfl ?_
      exact k_X7_line_14 X r h
-- X7_grid
abbrev cl_X7_grid (T : Nat → ClassId) (o_p0 : Nat) (a_p0 : Nat → Nat) (s_p0_finding : Int32) (s_p0_asked : Int64) (s_p0_newPoints : Int32) (s_p0_newLines : Int32) (s_p0_faultAt : Int64) (s_p0_tries : Int32) (s_p0_things : Int32) (s_p0_goals : Int32) (s_p0_level : Int32) (s_p0_kinds : Nat → Int32) (s_p0_lineCount : Nat → Int32) (s_p0_lines : Nat → Int64) (s_p0_marks : Nat → Int32) (s_p0_newRow : Nat → Int64) (s_p0_points : Nat → Int32) : va_W := [vO o_p0 4 [.int s_p0_finding, .ref (a_p0 1), .long s_p0_asked, .ref (a_p0 3), .ref (a_p0 4), .ref (a_p0 5), .ref (a_p0 6), .ref (a_p0 7), .int s_p0_newPoints, .int s_p0_newLines, .ref (a_p0 10), .ref (a_p0 11), .long s_p0_faultAt, .int s_p0_tries, .int s_p0_things, .int s_p0_goals, .ref (a_p0 16), .ref (a_p0 17), .ref (a_p0 18), .ref (a_p0 19), .ref (a_p0 20), .ref (a_p0 21), .int s_p0_level, .ref (a_p0 23), .ref (a_p0 24), .ref (a_p0 25), .ref (a_p0 26), .ref (a_p0 27), .ref (a_p0 28), .ref (a_p0 29), .ref (a_p0 30), .ref (a_p0 31), .ref (a_p0 32)], vI T (a_p0 5) 6 s_p0_kinds, vI T (a_p0 4) 6 s_p0_lineCount, vJ T (a_p0 7) 270 s_p0_lines, vI T (a_p0 6) 6 s_p0_marks, vJ T (a_p0 10) 120 s_p0_newRow, vI T (a_p0 3) 6 s_p0_points]
abbrev r_X7_grid (E : vE) (T : Nat → ClassId) (o_p0 : Nat) (a_p0 : Nat → Nat) (s_p0_finding : Int32) (s_p0_asked : Int64) (s_p0_faultAt : Int64) (s_p0_tries : Int32) (s_p0_things : Int32) (s_p0_goals : Int32) (s_p0_level : Int32) (Q : Int32 → (Int32) → (Int32) → (Nat → Int32) → (Nat → Int32) → (Nat → Int64) → (Nat → Int32) → (Nat → Int64) → (Nat → Int32) → Prop) : Prop := vRi E cX7_grid (fun v (u : (Int32) × (Int32) × (Nat → Int32) × (Nat → Int32) × (Nat → Int64) × (Nat → Int32) × (Nat → Int64) × (Nat → Int32)) => Q v u.1 u.2.1 u.2.2.1 u.2.2.2.1 u.2.2.2.2.1 u.2.2.2.2.2.1 u.2.2.2.2.2.2.1 u.2.2.2.2.2.2.2) (fun (u : (Int32) × (Int32) × (Nat → Int32) × (Nat → Int32) × (Nat → Int64) × (Nat → Int32) × (Nat → Int64) × (Nat → Int32)) => (cl_X7_grid T o_p0 a_p0 s_p0_finding s_p0_asked u.1 u.2.1 s_p0_faultAt s_p0_tries s_p0_things s_p0_goals s_p0_level u.2.2.1 u.2.2.2.1 u.2.2.2.2.1 u.2.2.2.2.2.1 u.2.2.2.2.2.2.1 u.2.2.2.2.2.2.2))
def w_X7_grid_109s (x_1 : Int32) (x_2 : Int32) (x_3 : Int32) (x_4 : Int32) (s_p0_newPoints : Int32) (s_p0_newLines : Int32) (s_p0_kinds : Nat → Int32) (s_p0_lineCount : Nat → Int32) (s_p0_lines : Nat → Int64) (s_p0_marks : Nat → Int32) (s_p0_newRow : Nat → Int64) (s_p0_points : Nat → Int32) (K_97 : (Int32) → (Int32) → (Nat → Int64) → Prop) (Q : Int32 → (Int32) → (Int32) → (Nat → Int32) → (Nat → Int32) → (Nat → Int64) → (Nat → Int32) → (Nat → Int64) → (Nat → Int32) → Prop) (K_109 : (Int64) → (Int32) → Prop) (x_5 : Int64) (x_7 : Int32) : Prop := ((x_2 ≤ x_7 → (w_X7_add x_5 s_p0_newLines s_p0_newRow (fun (u_138_0 : Int32) (u_138_1 : Nat → Int64) => (K_97 (x_4 + (1 : Int32)) u_138_0 u_138_1)))) ∧ (¬ x_2 ≤ x_7 → (K_109 (x_5 ||| (vshl (1 : Int64) ((x_3 * x_7) + x_4))) (x_7 + (1 : Int32)))))
def w_X7_grid_109 (x_1 : Int32) (x_2 : Int32) (x_3 : Int32) (x_4 : Int32) (s_p0_newPoints : Int32) (s_p0_newLines : Int32) (s_p0_kinds : Nat → Int32) (s_p0_lineCount : Nat → Int32) (s_p0_lines : Nat → Int64) (s_p0_marks : Nat → Int32) (s_p0_newRow : Nat → Int64) (s_p0_points : Nat → Int32) (K_97 : (Int32) → (Int32) → (Nat → Int64) → Prop) (Q : Int32 → (Int32) → (Int32) → (Nat → Int32) → (Nat → Int32) → (Nat → Int64) → (Nat → Int32) → (Nat → Int64) → (Nat → Int32) → Prop) : Nat → (Int64) → (Int32) → Prop
  | 0 => fun _ _ => False
  | n_ + 1 => w_X7_grid_109s x_1 x_2 x_3 x_4 s_p0_newPoints s_p0_newLines s_p0_kinds s_p0_lineCount s_p0_lines s_p0_marks s_p0_newRow s_p0_points K_97 Q (w_X7_grid_109 x_1 x_2 x_3 x_4 s_p0_newPoints s_p0_newLines s_p0_kinds s_p0_lineCount s_p0_lines s_p0_marks s_p0_newRow s_p0_points K_97 Q n_)
def w_X7_grid_97s (x_1 : Int32) (x_2 : Int32) (x_3 : Int32) (s_p0_newPoints : Int32) (s_p0_kinds : Nat → Int32) (s_p0_lineCount : Nat → Int32) (s_p0_lines : Nat → Int64) (s_p0_marks : Nat → Int32) (s_p0_points : Nat → Int32) (Q : Int32 → (Int32) → (Int32) → (Nat → Int32) → (Nat → Int32) → (Nat → Int64) → (Nat → Int32) → (Nat → Int64) → (Nat → Int32) → Prop) (K_97 : (Int32) → (Int32) → (Nat → Int64) → Prop) (x_4 : Int32) (s_p0_newLines : Int32) (s_p0_newRow : Nat → Int64) : Prop := ((x_3 ≤ x_4 → (w_X7_keep x_1 (1 : Int32) x_2 s_p0_newPoints s_p0_newLines s_p0_kinds s_p0_lineCount s_p0_lines s_p0_marks s_p0_newRow s_p0_points (fun (r_151 : Int32) (u_151_0 : Nat → Int32) (u_151_1 : Nat → Int32) (u_151_2 : Nat → Int64) (u_151_3 : Nat → Int32) (u_151_4 : Nat → Int32) => (Q r_151 s_p0_newPoints s_p0_newLines u_151_0 u_151_1 u_151_2 u_151_3 s_p0_newRow u_151_4)))) ∧ (¬ x_3 ≤ x_4 → (∃ n_, w_X7_grid_109 x_1 x_2 x_3 x_4 s_p0_newPoints s_p0_newLines s_p0_kinds s_p0_lineCount s_p0_lines s_p0_marks s_p0_newRow s_p0_points K_97 Q n_ (0 : Int64) (0 : Int32))))
def w_X7_grid_97 (x_1 : Int32) (x_2 : Int32) (x_3 : Int32) (s_p0_newPoints : Int32) (s_p0_kinds : Nat → Int32) (s_p0_lineCount : Nat → Int32) (s_p0_lines : Nat → Int64) (s_p0_marks : Nat → Int32) (s_p0_points : Nat → Int32) (Q : Int32 → (Int32) → (Int32) → (Nat → Int32) → (Nat → Int32) → (Nat → Int64) → (Nat → Int32) → (Nat → Int64) → (Nat → Int32) → Prop) : Nat → (Int32) → (Int32) → (Nat → Int64) → Prop
  | 0 => fun _ _ _ => False
  | n_ + 1 => w_X7_grid_97s x_1 x_2 x_3 s_p0_newPoints s_p0_kinds s_p0_lineCount s_p0_lines s_p0_marks s_p0_points Q (w_X7_grid_97 x_1 x_2 x_3 s_p0_newPoints s_p0_kinds s_p0_lineCount s_p0_lines s_p0_marks s_p0_points Q n_)
def w_X7_grid_56s (x_1 : Int32) (x_2 : Int32) (x_3 : Int32) (x_4 : Int32) (s_p0_newPoints : Int32) (s_p0_newLines : Int32) (s_p0_kinds : Nat → Int32) (s_p0_lineCount : Nat → Int32) (s_p0_lines : Nat → Int64) (s_p0_marks : Nat → Int32) (s_p0_newRow : Nat → Int64) (s_p0_points : Nat → Int32) (K_44 : (Int32) → (Int32) → (Nat → Int64) → Prop) (Q : Int32 → (Int32) → (Int32) → (Nat → Int32) → (Nat → Int32) → (Nat → Int64) → (Nat → Int32) → (Nat → Int64) → (Nat → Int32) → Prop) (K_56 : (Int64) → (Int32) → Prop) (x_5 : Int64) (x_7 : Int32) : Prop := ((x_3 ≤ x_7 → (w_X7_add x_5 s_p0_newLines s_p0_newRow (fun (u_85_0 : Int32) (u_85_1 : Nat → Int64) => (K_44 (x_4 + (1 : Int32)) u_85_0 u_85_1)))) ∧ (¬ x_3 ≤ x_7 → (K_56 (x_5 ||| (vshl (1 : Int64) ((x_3 * x_4) + x_7))) (x_7 + (1 : Int32)))))
def w_X7_grid_56 (x_1 : Int32) (x_2 : Int32) (x_3 : Int32) (x_4 : Int32) (s_p0_newPoints : Int32) (s_p0_newLines : Int32) (s_p0_kinds : Nat → Int32) (s_p0_lineCount : Nat → Int32) (s_p0_lines : Nat → Int64) (s_p0_marks : Nat → Int32) (s_p0_newRow : Nat → Int64) (s_p0_points : Nat → Int32) (K_44 : (Int32) → (Int32) → (Nat → Int64) → Prop) (Q : Int32 → (Int32) → (Int32) → (Nat → Int32) → (Nat → Int32) → (Nat → Int64) → (Nat → Int32) → (Nat → Int64) → (Nat → Int32) → Prop) : Nat → (Int64) → (Int32) → Prop
  | 0 => fun _ _ => False
  | n_ + 1 => w_X7_grid_56s x_1 x_2 x_3 x_4 s_p0_newPoints s_p0_newLines s_p0_kinds s_p0_lineCount s_p0_lines s_p0_marks s_p0_newRow s_p0_points K_44 Q (w_X7_grid_56 x_1 x_2 x_3 x_4 s_p0_newPoints s_p0_newLines s_p0_kinds s_p0_lineCount s_p0_lines s_p0_marks s_p0_newRow s_p0_points K_44 Q n_)
def w_X7_grid_44s (x_1 : Int32) (x_2 : Int32) (x_3 : Int32) (s_p0_newPoints : Int32) (s_p0_kinds : Nat → Int32) (s_p0_lineCount : Nat → Int32) (s_p0_lines : Nat → Int64) (s_p0_marks : Nat → Int32) (s_p0_points : Nat → Int32) (Q : Int32 → (Int32) → (Int32) → (Nat → Int32) → (Nat → Int32) → (Nat → Int64) → (Nat → Int32) → (Nat → Int64) → (Nat → Int32) → Prop) (K_44 : (Int32) → (Int32) → (Nat → Int64) → Prop) (x_4 : Int32) (s_p0_newLines : Int32) (s_p0_newRow : Nat → Int64) : Prop := ((x_2 ≤ x_4 → (∃ n_, w_X7_grid_97 x_1 x_2 x_3 s_p0_newPoints s_p0_kinds s_p0_lineCount s_p0_lines s_p0_marks s_p0_points Q n_ (0 : Int32) s_p0_newLines s_p0_newRow)) ∧ (¬ x_2 ≤ x_4 → (∃ n_, w_X7_grid_56 x_1 x_2 x_3 x_4 s_p0_newPoints s_p0_newLines s_p0_kinds s_p0_lineCount s_p0_lines s_p0_marks s_p0_newRow s_p0_points K_44 Q n_ (0 : Int64) (0 : Int32))))
def w_X7_grid_44 (x_1 : Int32) (x_2 : Int32) (x_3 : Int32) (s_p0_newPoints : Int32) (s_p0_kinds : Nat → Int32) (s_p0_lineCount : Nat → Int32) (s_p0_lines : Nat → Int64) (s_p0_marks : Nat → Int32) (s_p0_points : Nat → Int32) (Q : Int32 → (Int32) → (Int32) → (Nat → Int32) → (Nat → Int32) → (Nat → Int64) → (Nat → Int32) → (Nat → Int64) → (Nat → Int32) → Prop) : Nat → (Int32) → (Int32) → (Nat → Int64) → Prop
  | 0 => fun _ _ _ => False
  | n_ + 1 => w_X7_grid_44s x_1 x_2 x_3 s_p0_newPoints s_p0_kinds s_p0_lineCount s_p0_lines s_p0_marks s_p0_points Q (w_X7_grid_44 x_1 x_2 x_3 s_p0_newPoints s_p0_kinds s_p0_lineCount s_p0_lines s_p0_marks s_p0_points Q n_)
def w_X7_grid_27 (s_p0_newPoints : Int32) (s_p0_newLines : Int32) (s_p0_kinds : Nat → Int32) (s_p0_lineCount : Nat → Int32) (s_p0_lines : Nat → Int64) (s_p0_marks : Nat → Int32) (s_p0_newRow : Nat → Int64) (s_p0_points : Nat → Int32) (Q : Int32 → (Int32) → (Int32) → (Nat → Int32) → (Nat → Int32) → (Nat → Int64) → (Nat → Int32) → (Nat → Int64) → (Nat → Int32) → Prop) : Prop := (Q (-1 : Int32) s_p0_newPoints s_p0_newLines s_p0_kinds s_p0_lineCount s_p0_lines s_p0_marks s_p0_newRow s_p0_points)
def w_X7_grid (x_1 : Int32) (x_2 : Int32) (x_3 : Int32) (s_p0_newPoints : Int32) (s_p0_newLines : Int32) (s_p0_kinds : Nat → Int32) (s_p0_lineCount : Nat → Int32) (s_p0_lines : Nat → Int64) (s_p0_marks : Nat → Int32) (s_p0_newRow : Nat → Int64) (s_p0_points : Nat → Int32) (Q : Int32 → (Int32) → (Int32) → (Nat → Int32) → (Nat → Int32) → (Nat → Int64) → (Nat → Int32) → (Nat → Int64) → (Nat → Int32) → Prop) : Prop := (w_X7_isNumber x_1 (fun (r_1 : Int32) => ((r_1 = 0 → (w_X7_grid_27 s_p0_newPoints s_p0_newLines s_p0_kinds s_p0_lineCount s_p0_lines s_p0_marks s_p0_newRow s_p0_points Q)) ∧ (¬ r_1 = 0 → (w_X7_in x_2 (2 : Int32) (6 : Int32) (fun (r_11 : Int32) => ((r_11 = 0 → (w_X7_grid_27 s_p0_newPoints s_p0_newLines s_p0_kinds s_p0_lineCount s_p0_lines s_p0_marks s_p0_newRow s_p0_points Q)) ∧ (¬ r_11 = 0 → (w_X7_in x_3 (2 : Int32) (6 : Int32) (fun (r_21 : Int32) => ((¬ r_21 = 0 → (∃ n_, w_X7_grid_44 x_1 x_2 x_3 (x_2 * x_3) s_p0_kinds s_p0_lineCount s_p0_lines s_p0_marks s_p0_points Q n_ (0 : Int32) (0 : Int32) s_p0_newRow)) ∧ (r_21 = 0 → (w_X7_grid_27 s_p0_newPoints s_p0_newLines s_p0_kinds s_p0_lineCount s_p0_lines s_p0_marks s_p0_newRow s_p0_points Q)))))))))))))
-- X7_grid
theorem iX7_grid_X7 : ∀ w ∈ wsX70, w ∈ wsX7_grid := by decide +kernel
set_option maxHeartbeats 4000000 in
set_option maxRecDepth 100000 in
theorem k_X7_grid_109 {E : vE} {T : Nat → ClassId} {o_p0 : Nat} {a_p0 : Nat → Nat} {s_p0_finding : Int32} {s_p0_asked : Int64} {s_p0_newPoints : Int32} {s_p0_newLines : Int32} {s_p0_faultAt : Int64} {s_p0_tries : Int32} {s_p0_things : Int32} {s_p0_goals : Int32} {s_p0_level : Int32} {s_p0_kinds : Nat → Int32} {s_p0_lineCount : Nat → Int32} {s_p0_lines : Nat → Int64} {s_p0_marks : Nat → Int32} {s_p0_newRow : Nat → Int64} {s_p0_points : Nat → Int32} {x_1 : Int32} {x_2 : Int32} {x_3 : Int32} {x_4 : Int32} {K_97 : (Int32) → (Int32) → (Nat → Int64) → Prop} {Q : Int32 → (Int32) → (Int32) → (Nat → Int32) → (Nat → Int32) → (Nat → Int64) → (Nat → Int32) → (Nat → Int64) → (Nat → Int32) → Prop} (X : vX E cX7_grid 8 RX7 wsX7_grid (vT T) (vr 2 42)) (r : r_X7_grid E T o_p0 a_p0 s_p0_finding s_p0_asked s_p0_faultAt s_p0_tries s_p0_things s_p0_goals s_p0_level Q) (hK_97 : ∀ (x_4' : Int32) (s_p0_newLines' : Int32) (s_p0_newRow' : Nat → Int64), K_97 x_4' s_p0_newLines' s_p0_newRow' → V E 0 0 97 [(0, .ref o_p0), (1, .int x_1), (2, .int x_2), (3, .int x_3), (4, .int x_4')] [] (cl_X7_grid T o_p0 a_p0 s_p0_finding s_p0_asked s_p0_newPoints s_p0_newLines' s_p0_faultAt s_p0_tries s_p0_things s_p0_goals s_p0_level s_p0_kinds s_p0_lineCount s_p0_lines s_p0_marks s_p0_newRow' s_p0_points)) : ∀ (n_ : Nat) (x_5 : Int64) (x_7 : Int32), w_X7_grid_109 x_1 x_2 x_3 x_4 s_p0_newPoints s_p0_newLines s_p0_kinds s_p0_lineCount s_p0_lines s_p0_marks s_p0_newRow s_p0_points K_97 Q n_ x_5 x_7 → V E 0 0 109 [(0, .ref o_p0), (1, .int x_1), (2, .int x_2), (3, .int x_3), (4, .int x_4), (5, .long x_5), (7, .int x_7)] [] (cl_X7_grid T o_p0 a_p0 s_p0_finding s_p0_asked s_p0_newPoints s_p0_newLines s_p0_faultAt s_p0_tries s_p0_things s_p0_goals s_p0_level s_p0_kinds s_p0_lineCount s_p0_lines s_p0_marks s_p0_newRow s_p0_points) := by
  intro n_
  induction n_ with
  | zero => intro x_5 x_7 h; exact h.elim
  | succ n_ hK_109 =>
    intro x_5 x_7 h
    replace h : w_X7_grid_109s x_1 x_2 x_3 x_4 s_p0_newPoints s_p0_newLines s_p0_kinds s_p0_lineCount s_p0_lines s_p0_marks s_p0_newRow s_p0_points K_97 Q (w_X7_grid_109 x_1 x_2 x_3 x_4 s_p0_newPoints s_p0_newLines s_p0_kinds s_p0_lineCount s_p0_lines s_p0_marks s_p0_newRow s_p0_points K_97 Q n_) x_5 x_7 := h
    unfold w_X7_grid_109s at h
    refine v_iload X 6 dX7_grid_109 rfl ?_
    refine v_iload_n X 2 dX7_grid_111 rfl rfl ?_
    refine v_icmp_ge X (tgt := 135) dX7_grid_112 (by decide) (fun c_112 => ?_) (fun c_112 => ?_)
    · replace h := h.1 c_112
      refine v_aload_n X 0 dX7_grid_135 rfl rfl ?_
      refine v_lload X 5 dX7_grid_136 rfl ?_
      refine v_callVv X (As := [.long x_5]) (rest := []) 1 0 (c_X7_add (l := vl E) (D := vD E) (T := T) (o_p0 := o_p0) (a_p0 := a_p0) (s_p0_finding := s_p0_finding) (s_p0_asked := s_p0_asked) (s_p0_newPoints := s_p0_newPoints) (s_p0_newLines := s_p0_newLines) (s_p0_faultAt := s_p0_faultAt) (s_p0_tries := s_p0_tries) (s_p0_things := s_p0_things) (s_p0_goals := s_p0_goals) (s_p0_level := s_p0_level) (s_p0_newRow := s_p0_newRow) (x_1 := x_5) h) gX7_grid_X7_add rfl rfl (by decide +kernel) ⟨Nat.zero_le _, Nat.zero_le _⟩ ⟨rfl, rfl, by decide, by decide⟩ (Nat.le_of_ble_eq_true rfl) rfl rfl (wr := [vI T (a_p0 5) 6 s_p0_kinds, vI T (a_p0 4) 6 s_p0_lineCount, vJ T (a_p0 7) 270 s_p0_lines, vI T (a_p0 6) 6 s_p0_marks, vI T (a_p0 3) 6 s_p0_points]) [0, 5] [1, 2, 3, 4, 6] rfl rfl rfl rfl (by decide) rfl dX7_grid_138 (fun u h => ?_)
      obtain ⟨u_138_0, u_138_1⟩ := u
      dsimp only at h
      refine v_ws (ws' := (cl_X7_grid T o_p0 a_p0 s_p0_finding s_p0_asked s_p0_newPoints u_138_0 s_p0_faultAt s_p0_tries s_p0_things s_p0_goals s_p0_level s_p0_kinds s_p0_lineCount s_p0_lines s_p0_marks u_138_1 s_p0_points)) [5, 0, 1, 2, 3, 6, 4] rfl rfl ?_
      refine v_iinc X (v := (x_4 + (1 : Int32))) (lv' := [(4, .int (x_4 + (1 : Int32))), (0, .ref o_p0), (1, .int x_1), (2, .int x_2), (3, .int x_3), (5, .long x_5), (7, .int x_7)]) 4 dX7_grid_141 rfl rfl (by decide) rfl ?_
      refine v_goto X (tgt := 97) dX7_grid_144 (by decide) ?_
      refine v_lv (lv' := [(0, .ref o_p0), (1, .int x_1), (2, .int x_2), (3, .int x_3), (4, .int (x_4 + (1 : Int32)))]) [1, 2, 3, 4, 0] rfl ?_
      exact hK_97 _ _ _ h
    · replace h := h.2 c_112
      refine v_lload X 5 dX7_grid_115 rfl ?_
      refine v_lconst X dX7_grid_117 (v := (1 : Int64)) (by decide) ?_
      refine v_iload_n X 3 dX7_grid_118 rfl rfl ?_
      refine v_iload X 6 dX7_grid_119 rfl ?_
      refine v_imul X dX7_grid_121 ?_
      refine v_iload X 4 dX7_grid_122 rfl ?_
      refine v_iadd X dX7_grid_124 ?_
      refine v_lshl X dX7_grid_125 ?_
      refine v_lor X dX7_grid_126 ?_
      refine v_lstore X (lv' := [(5, .long (x_5 ||| (vshl (1 : Int64) ((x_3 * x_7) + x_4)))), (0, .ref o_p0), (1, .int x_1), (2, .int x_2), (3, .int x_3), (4, .int x_4), (7, .int x_7)]) dX7_grid_127 (by decide) rfl ?_
      refine v_iinc X (v := (x_7 + (1 : Int32))) (lv' := [(7, .int (x_7 + (1 : Int32))), (5, .long (x_5 ||| (vshl (1 : Int64) ((x_3 * x_7) + x_4)))), (0, .ref o_p0), (1, .int x_1), (2, .int x_2), (3, .int x_3), (4, .int x_4)]) 6 dX7_grid_129 rfl rfl (by decide) rfl ?_
      refine v_goto X (tgt := 109) dX7_grid_132 (by decide) ?_
      refine v_lv (lv' := [(0, .ref o_p0), (1, .int x_1), (2, .int x_2), (3, .int x_3), (4, .int x_4), (5, .long (x_5 ||| (vshl (1 : Int64) ((x_3 * x_7) + x_4)))), (7, .int (x_7 + (1 : Int32)))]) [2, 3, 4, 5, 6, 1, 0] rfl ?_
      exact hK_109 _ _ h
set_option maxHeartbeats 4000000 in
set_option maxRecDepth 100000 in
theorem k_X7_grid_97 {E : vE} {T : Nat → ClassId} {o_p0 : Nat} {a_p0 : Nat → Nat} {s_p0_finding : Int32} {s_p0_asked : Int64} {s_p0_newPoints : Int32} {s_p0_faultAt : Int64} {s_p0_tries : Int32} {s_p0_things : Int32} {s_p0_goals : Int32} {s_p0_level : Int32} {s_p0_kinds : Nat → Int32} {s_p0_lineCount : Nat → Int32} {s_p0_lines : Nat → Int64} {s_p0_marks : Nat → Int32} {s_p0_points : Nat → Int32} {x_1 : Int32} {x_2 : Int32} {x_3 : Int32} {Q : Int32 → (Int32) → (Int32) → (Nat → Int32) → (Nat → Int32) → (Nat → Int64) → (Nat → Int32) → (Nat → Int64) → (Nat → Int32) → Prop} (X : vX E cX7_grid 8 RX7 wsX7_grid (vT T) (vr 2 42)) (r : r_X7_grid E T o_p0 a_p0 s_p0_finding s_p0_asked s_p0_faultAt s_p0_tries s_p0_things s_p0_goals s_p0_level Q) : ∀ (n_ : Nat) (x_4 : Int32) (s_p0_newLines : Int32) (s_p0_newRow : Nat → Int64), w_X7_grid_97 x_1 x_2 x_3 s_p0_newPoints s_p0_kinds s_p0_lineCount s_p0_lines s_p0_marks s_p0_points Q n_ x_4 s_p0_newLines s_p0_newRow → V E 0 0 97 [(0, .ref o_p0), (1, .int x_1), (2, .int x_2), (3, .int x_3), (4, .int x_4)] [] (cl_X7_grid T o_p0 a_p0 s_p0_finding s_p0_asked s_p0_newPoints s_p0_newLines s_p0_faultAt s_p0_tries s_p0_things s_p0_goals s_p0_level s_p0_kinds s_p0_lineCount s_p0_lines s_p0_marks s_p0_newRow s_p0_points) := by
  intro n_
  induction n_ with
  | zero => intro x_4 s_p0_newLines s_p0_newRow h; exact h.elim
  | succ n_ hK_97 =>
    intro x_4 s_p0_newLines s_p0_newRow h
    replace h : w_X7_grid_97s x_1 x_2 x_3 s_p0_newPoints s_p0_kinds s_p0_lineCount s_p0_lines s_p0_marks s_p0_points Q (w_X7_grid_97 x_1 x_2 x_3 s_p0_newPoints s_p0_kinds s_p0_lineCount s_p0_lines s_p0_marks s_p0_points Q n_) x_4 s_p0_newLines s_p0_newRow := h
    unfold w_X7_grid_97s at h
    refine v_iload X 4 dX7_grid_97 rfl ?_
    refine v_iload_n X 3 dX7_grid_99 rfl rfl ?_
    refine v_icmp_ge X (tgt := 147) dX7_grid_100 (by decide) (fun c_100 => ?_) (fun c_100 => ?_)
    · replace h := h.1 c_100
      refine v_aload_n X 0 dX7_grid_147 rfl rfl ?_
      refine v_iload_n X 1 dX7_grid_148 rfl rfl ?_
      refine v_iconst X dX7_grid_149 (v := (1 : Int32)) (by decide) ?_
      refine v_iload_n X 2 dX7_grid_150 rfl rfl ?_
      refine v_callVi X (As := [.int x_1, .int (1 : Int32), .int x_2]) (rest := []) 3 0 (c_X7_keep (l := vl E) (D := vD E) (T := T) (o_p0 := o_p0) (a_p0 := a_p0) (s_p0_finding := s_p0_finding) (s_p0_asked := s_p0_asked) (s_p0_newPoints := s_p0_newPoints) (s_p0_newLines := s_p0_newLines) (s_p0_faultAt := s_p0_faultAt) (s_p0_tries := s_p0_tries) (s_p0_things := s_p0_things) (s_p0_goals := s_p0_goals) (s_p0_level := s_p0_level) (s_p0_kinds := s_p0_kinds) (s_p0_lineCount := s_p0_lineCount) (s_p0_lines := s_p0_lines) (s_p0_marks := s_p0_marks) (s_p0_newRow := s_p0_newRow) (s_p0_points := s_p0_points) (x_1 := x_1) (x_2 := (1 : Int32)) (x_3 := x_2) h) gX7_grid_X7_keep rfl rfl (by decide +kernel) ⟨Nat.zero_le _, Nat.zero_le _⟩ ⟨rfl, rfl, by decide, by decide⟩ (Nat.le_of_ble_eq_true rfl) rfl rfl (wr := []) [0, 1, 2, 3, 4, 5, 6] [] rfl rfl rfl rfl (by decide) rfl dX7_grid_151 (fun r_151 u h => ?_)
      obtain ⟨u_151_0, u_151_1, u_151_2, u_151_3, u_151_4⟩ := u
      dsimp only at h
      refine v_ws (ws' := (cl_X7_grid T o_p0 a_p0 s_p0_finding s_p0_asked s_p0_newPoints s_p0_newLines s_p0_faultAt s_p0_tries s_p0_things s_p0_goals s_p0_level u_151_0 u_151_1 u_151_2 u_151_3 s_p0_newRow u_151_4)) [0, 1, 2, 3, 4, 5, 6] rfl rfl ?_
      exact r _ _ _ (s_p0_newPoints, s_p0_newLines, u_151_0, u_151_1, u_151_2, u_151_3, s_p0_newRow, u_151_4) _ dX7_grid_154 h rfl
    · replace h := h.2 c_100
      refine v_lconst X dX7_grid_103 (v := (0 : Int64)) (by decide) ?_
      refine v_lstore X (lv' := [(5, .long (0 : Int64)), (0, .ref o_p0), (1, .int x_1), (2, .int x_2), (3, .int x_3), (4, .int x_4)]) dX7_grid_104 (by decide) rfl ?_
      refine v_iconst X dX7_grid_106 (v := (0 : Int32)) (by decide) ?_
      refine v_istore X (lv' := [(7, .int (0 : Int32)), (5, .long (0 : Int64)), (0, .ref o_p0), (1, .int x_1), (2, .int x_2), (3, .int x_3), (4, .int x_4)]) dX7_grid_107 (by decide) rfl ?_
      refine v_lv (lv' := [(0, .ref o_p0), (1, .int x_1), (2, .int x_2), (3, .int x_3), (4, .int x_4), (5, .long (0 : Int64)), (7, .int (0 : Int32))]) [2, 3, 4, 5, 6, 1, 0] rfl ?_
      obtain ⟨n_, h⟩ := h
      exact k_X7_grid_109 X r hK_97 n_ _ _ h
set_option maxHeartbeats 4000000 in
set_option maxRecDepth 100000 in
theorem k_X7_grid_56 {E : vE} {T : Nat → ClassId} {o_p0 : Nat} {a_p0 : Nat → Nat} {s_p0_finding : Int32} {s_p0_asked : Int64} {s_p0_newPoints : Int32} {s_p0_newLines : Int32} {s_p0_faultAt : Int64} {s_p0_tries : Int32} {s_p0_things : Int32} {s_p0_goals : Int32} {s_p0_level : Int32} {s_p0_kinds : Nat → Int32} {s_p0_lineCount : Nat → Int32} {s_p0_lines : Nat → Int64} {s_p0_marks : Nat → Int32} {s_p0_newRow : Nat → Int64} {s_p0_points : Nat → Int32} {x_1 : Int32} {x_2 : Int32} {x_3 : Int32} {x_4 : Int32} {K_44 : (Int32) → (Int32) → (Nat → Int64) → Prop} {Q : Int32 → (Int32) → (Int32) → (Nat → Int32) → (Nat → Int32) → (Nat → Int64) → (Nat → Int32) → (Nat → Int64) → (Nat → Int32) → Prop} (X : vX E cX7_grid 8 RX7 wsX7_grid (vT T) (vr 2 42)) (r : r_X7_grid E T o_p0 a_p0 s_p0_finding s_p0_asked s_p0_faultAt s_p0_tries s_p0_things s_p0_goals s_p0_level Q) (hK_44 : ∀ (x_4' : Int32) (s_p0_newLines' : Int32) (s_p0_newRow' : Nat → Int64), K_44 x_4' s_p0_newLines' s_p0_newRow' → V E 0 0 44 [(0, .ref o_p0), (1, .int x_1), (2, .int x_2), (3, .int x_3), (4, .int x_4')] [] (cl_X7_grid T o_p0 a_p0 s_p0_finding s_p0_asked s_p0_newPoints s_p0_newLines' s_p0_faultAt s_p0_tries s_p0_things s_p0_goals s_p0_level s_p0_kinds s_p0_lineCount s_p0_lines s_p0_marks s_p0_newRow' s_p0_points)) : ∀ (n_ : Nat) (x_5 : Int64) (x_7 : Int32), w_X7_grid_56 x_1 x_2 x_3 x_4 s_p0_newPoints s_p0_newLines s_p0_kinds s_p0_lineCount s_p0_lines s_p0_marks s_p0_newRow s_p0_points K_44 Q n_ x_5 x_7 → V E 0 0 56 [(0, .ref o_p0), (1, .int x_1), (2, .int x_2), (3, .int x_3), (4, .int x_4), (5, .long x_5), (7, .int x_7)] [] (cl_X7_grid T o_p0 a_p0 s_p0_finding s_p0_asked s_p0_newPoints s_p0_newLines s_p0_faultAt s_p0_tries s_p0_things s_p0_goals s_p0_level s_p0_kinds s_p0_lineCount s_p0_lines s_p0_marks s_p0_newRow s_p0_points) := by
  intro n_
  induction n_ with
  | zero => intro x_5 x_7 h; exact h.elim
  | succ n_ hK_56 =>
    intro x_5 x_7 h
    replace h : w_X7_grid_56s x_1 x_2 x_3 x_4 s_p0_newPoints s_p0_newLines s_p0_kinds s_p0_lineCount s_p0_lines s_p0_marks s_p0_newRow s_p0_points K_44 Q (w_X7_grid_56 x_1 x_2 x_3 x_4 s_p0_newPoints s_p0_newLines s_p0_kinds s_p0_lineCount s_p0_lines s_p0_marks s_p0_newRow s_p0_points K_44 Q n_) x_5 x_7 := h
    unfold w_X7_grid_56s at h
    refine v_iload X 6 dX7_grid_56 rfl ?_
    refine v_iload_n X 3 dX7_grid_58 rfl rfl ?_
    refine v_icmp_ge X (tgt := 82) dX7_grid_59 (by decide) (fun c_59 => ?_) (fun c_59 => ?_)
    · replace h := h.1 c_59
      refine v_aload_n X 0 dX7_grid_82 rfl rfl ?_
      refine v_lload X 5 dX7_grid_83 rfl ?_
      refine v_callVv X (As := [.long x_5]) (rest := []) 1 0 (c_X7_add (l := vl E) (D := vD E) (T := T) (o_p0 := o_p0) (a_p0 := a_p0) (s_p0_finding := s_p0_finding) (s_p0_asked := s_p0_asked) (s_p0_newPoints := s_p0_newPoints) (s_p0_newLines := s_p0_newLines) (s_p0_faultAt := s_p0_faultAt) (s_p0_tries := s_p0_tries) (s_p0_things := s_p0_things) (s_p0_goals := s_p0_goals) (s_p0_level := s_p0_level) (s_p0_newRow := s_p0_newRow) (x_1 := x_5) h) gX7_grid_X7_add rfl rfl (by decide +kernel) ⟨Nat.zero_le _, Nat.zero_le _⟩ ⟨rfl, rfl, by decide, by decide⟩ (Nat.le_of_ble_eq_true rfl) rfl rfl (wr := [vI T (a_p0 5) 6 s_p0_kinds, vI T (a_p0 4) 6 s_p0_lineCount, vJ T (a_p0 7) 270 s_p0_lines, vI T (a_p0 6) 6 s_p0_marks, vI T (a_p0 3) 6 s_p0_points]) [0, 5] [1, 2, 3, 4, 6] rfl rfl rfl rfl (by decide) rfl dX7_grid_85 (fun u h => ?_)
      obtain ⟨u_85_0, u_85_1⟩ := u
      dsimp only at h
      refine v_ws (ws' := (cl_X7_grid T o_p0 a_p0 s_p0_finding s_p0_asked s_p0_newPoints u_85_0 s_p0_faultAt s_p0_tries s_p0_things s_p0_goals s_p0_level s_p0_kinds s_p0_lineCount s_p0_lines s_p0_marks u_85_1 s_p0_points)) [5, 0, 1, 2, 3, 6, 4] rfl rfl ?_
      refine v_iinc X (v := (x_4 + (1 : Int32))) (lv' := [(4, .int (x_4 + (1 : Int32))), (0, .ref o_p0), (1, .int x_1), (2, .int x_2), (3, .int x_3), (5, .long x_5), (7, .int x_7)]) 4 dX7_grid_88 rfl rfl (by decide) rfl ?_
      refine v_goto X (tgt := 44) dX7_grid_91 (by decide) ?_
      refine v_lv (lv' := [(0, .ref o_p0), (1, .int x_1), (2, .int x_2), (3, .int x_3), (4, .int (x_4 + (1 : Int32)))]) [1, 2, 3, 4, 0] rfl ?_
      exact hK_44 _ _ _ h
    · replace h := h.2 c_59
      refine v_lload X 5 dX7_grid_62 rfl ?_
      refine v_lconst X dX7_grid_64 (v := (1 : Int64)) (by decide) ?_
      refine v_iload_n X 3 dX7_grid_65 rfl rfl ?_
      refine v_iload X 4 dX7_grid_66 rfl ?_
      refine v_imul X dX7_grid_68 ?_
      refine v_iload X 6 dX7_grid_69 rfl ?_
      refine v_iadd X dX7_grid_71 ?_
      refine v_lshl X dX7_grid_72 ?_
      refine v_lor X dX7_grid_73 ?_
      refine v_lstore X (lv' := [(5, .long (x_5 ||| (vshl (1 : Int64) ((x_3 * x_4) + x_7)))), (0, .ref o_p0), (1, .int x_1), (2, .int x_2), (3, .int x_3), (4, .int x_4), (7, .int x_7)]) dX7_grid_74 (by decide) rfl ?_
      refine v_iinc X (v := (x_7 + (1 : Int32))) (lv' := [(7, .int (x_7 + (1 : Int32))), (5, .long (x_5 ||| (vshl (1 : Int64) ((x_3 * x_4) + x_7)))), (0, .ref o_p0), (1, .int x_1), (2, .int x_2), (3, .int x_3), (4, .int x_4)]) 6 dX7_grid_76 rfl rfl (by decide) rfl ?_
      refine v_goto X (tgt := 56) dX7_grid_79 (by decide) ?_
      refine v_lv (lv' := [(0, .ref o_p0), (1, .int x_1), (2, .int x_2), (3, .int x_3), (4, .int x_4), (5, .long (x_5 ||| (vshl (1 : Int64) ((x_3 * x_4) + x_7)))), (7, .int (x_7 + (1 : Int32)))]) [2, 3, 4, 5, 6, 1, 0] rfl ?_
      exact hK_56 _ _ h
set_option maxHeartbeats 4000000 in
set_option maxRecDepth 100000 in
theorem k_X7_grid_44 {E : vE} {T : Nat → ClassId} {o_p0 : Nat} {a_p0 : Nat → Nat} {s_p0_finding : Int32} {s_p0_asked : Int64} {s_p0_newPoints : Int32} {s_p0_faultAt : Int64} {s_p0_tries : Int32} {s_p0_things : Int32} {s_p0_goals : Int32} {s_p0_level : Int32} {s_p0_kinds : Nat → Int32} {s_p0_lineCount : Nat → Int32} {s_p0_lines : Nat → Int64} {s_p0_marks : Nat → Int32} {s_p0_points : Nat → Int32} {x_1 : Int32} {x_2 : Int32} {x_3 : Int32} {Q : Int32 → (Int32) → (Int32) → (Nat → Int32) → (Nat → Int32) → (Nat → Int64) → (Nat → Int32) → (Nat → Int64) → (Nat → Int32) → Prop} (X : vX E cX7_grid 8 RX7 wsX7_grid (vT T) (vr 2 42)) (r : r_X7_grid E T o_p0 a_p0 s_p0_finding s_p0_asked s_p0_faultAt s_p0_tries s_p0_things s_p0_goals s_p0_level Q) : ∀ (n_ : Nat) (x_4 : Int32) (s_p0_newLines : Int32) (s_p0_newRow : Nat → Int64), w_X7_grid_44 x_1 x_2 x_3 s_p0_newPoints s_p0_kinds s_p0_lineCount s_p0_lines s_p0_marks s_p0_points Q n_ x_4 s_p0_newLines s_p0_newRow → V E 0 0 44 [(0, .ref o_p0), (1, .int x_1), (2, .int x_2), (3, .int x_3), (4, .int x_4)] [] (cl_X7_grid T o_p0 a_p0 s_p0_finding s_p0_asked s_p0_newPoints s_p0_newLines s_p0_faultAt s_p0_tries s_p0_things s_p0_goals s_p0_level s_p0_kinds s_p0_lineCount s_p0_lines s_p0_marks s_p0_newRow s_p0_points) := by
  intro n_
  induction n_ with
  | zero => intro x_4 s_p0_newLines s_p0_newRow h; exact h.elim
  | succ n_ hK_44 =>
    intro x_4 s_p0_newLines s_p0_newRow h
    replace h : w_X7_grid_44s x_1 x_2 x_3 s_p0_newPoints s_p0_kinds s_p0_lineCount s_p0_lines s_p0_marks s_p0_points Q (w_X7_grid_44 x_1 x_2 x_3 s_p0_newPoints s_p0_kinds s_p0_lineCount s_p0_lines s_p0_marks s_p0_points Q n_) x_4 s_p0_newLines s_p0_newRow := h
    unfold w_X7_grid_44s at h
    refine v_iload X 4 dX7_grid_44 rfl ?_
    refine v_iload_n X 2 dX7_grid_46 rfl rfl ?_
    refine v_icmp_ge X (tgt := 94) dX7_grid_47 (by decide) (fun c_47 => ?_) (fun c_47 => ?_)
    · replace h := h.1 c_47
      refine v_iconst X dX7_grid_94 (v := (0 : Int32)) (by decide) ?_
      refine v_istore X (lv' := [(4, .int (0 : Int32)), (0, .ref o_p0), (1, .int x_1), (2, .int x_2), (3, .int x_3)]) dX7_grid_95 (by decide) rfl ?_
      refine v_lv (lv' := [(0, .ref o_p0), (1, .int x_1), (2, .int x_2), (3, .int x_3), (4, .int (0 : Int32))]) [1, 2, 3, 4, 0] rfl ?_
      obtain ⟨n_, h⟩ := h
      exact k_X7_grid_97 X r n_ _ _ _ h
    · replace h := h.2 c_47
      refine v_lconst X dX7_grid_50 (v := (0 : Int64)) (by decide) ?_
      refine v_lstore X (lv' := [(5, .long (0 : Int64)), (0, .ref o_p0), (1, .int x_1), (2, .int x_2), (3, .int x_3), (4, .int x_4)]) dX7_grid_51 (by decide) rfl ?_
      refine v_iconst X dX7_grid_53 (v := (0 : Int32)) (by decide) ?_
      refine v_istore X (lv' := [(7, .int (0 : Int32)), (5, .long (0 : Int64)), (0, .ref o_p0), (1, .int x_1), (2, .int x_2), (3, .int x_3), (4, .int x_4)]) dX7_grid_54 (by decide) rfl ?_
      refine v_lv (lv' := [(0, .ref o_p0), (1, .int x_1), (2, .int x_2), (3, .int x_3), (4, .int x_4), (5, .long (0 : Int64)), (7, .int (0 : Int32))]) [2, 3, 4, 5, 6, 1, 0] rfl ?_
      obtain ⟨n_, h⟩ := h
      exact k_X7_grid_56 X r hK_44 n_ _ _ h
set_option maxHeartbeats 4000000 in
set_option maxRecDepth 100000 in
theorem k_X7_grid_27 {E : vE} {T : Nat → ClassId} {o_p0 : Nat} {a_p0 : Nat → Nat} {s_p0_finding : Int32} {s_p0_asked : Int64} {s_p0_newPoints : Int32} {s_p0_newLines : Int32} {s_p0_faultAt : Int64} {s_p0_tries : Int32} {s_p0_things : Int32} {s_p0_goals : Int32} {s_p0_level : Int32} {s_p0_kinds : Nat → Int32} {s_p0_lineCount : Nat → Int32} {s_p0_lines : Nat → Int64} {s_p0_marks : Nat → Int32} {s_p0_newRow : Nat → Int64} {s_p0_points : Nat → Int32} {Q : Int32 → (Int32) → (Int32) → (Nat → Int32) → (Nat → Int32) → (Nat → Int64) → (Nat → Int32) → (Nat → Int64) → (Nat → Int32) → Prop} (X : vX E cX7_grid 8 RX7 wsX7_grid (vT T) (vr 2 42)) (r : r_X7_grid E T o_p0 a_p0 s_p0_finding s_p0_asked s_p0_faultAt s_p0_tries s_p0_things s_p0_goals s_p0_level Q) (h : w_X7_grid_27 s_p0_newPoints s_p0_newLines s_p0_kinds s_p0_lineCount s_p0_lines s_p0_marks s_p0_newRow s_p0_points Q) : V E 0 0 27 [] [] (cl_X7_grid T o_p0 a_p0 s_p0_finding s_p0_asked s_p0_newPoints s_p0_newLines s_p0_faultAt s_p0_tries s_p0_things s_p0_goals s_p0_level s_p0_kinds s_p0_lineCount s_p0_lines s_p0_marks s_p0_newRow s_p0_points) := by
  unfold w_X7_grid_27 at h
  refine v_iconst X dX7_grid_27 (v := (-1 : Int32)) (by decide) ?_
  exact r _ _ _ (s_p0_newPoints, s_p0_newLines, s_p0_kinds, s_p0_lineCount, s_p0_lines, s_p0_marks, s_p0_newRow, s_p0_points) _ dX7_grid_28 h rfl
set_option maxHeartbeats 4000000 in
set_option maxRecDepth 100000 in
theorem c_X7_grid {l : Launch} {D : va_G} {T : Nat → ClassId} {o_p0 : Nat} {a_p0 : Nat → Nat} {s_p0_finding : Int32} {s_p0_asked : Int64} {s_p0_newPoints : Int32} {s_p0_newLines : Int32} {s_p0_faultAt : Int64} {s_p0_tries : Int32} {s_p0_things : Int32} {s_p0_goals : Int32} {s_p0_level : Int32} {s_p0_kinds : Nat → Int32} {s_p0_lineCount : Nat → Int32} {s_p0_lines : Nat → Int64} {s_p0_marks : Nat → Int32} {s_p0_newRow : Nat → Int64} {s_p0_points : Nat → Int32} {x_1 : Int32} {x_2 : Int32} {x_3 : Int32} {Q : Int32 → (Int32) → (Int32) → (Nat → Int32) → (Nat → Int32) → (Nat → Int64) → (Nat → Int32) → (Nat → Int64) → (Nat → Int32) → Prop} (h : w_X7_grid x_1 x_2 x_3 s_p0_newPoints s_p0_newLines s_p0_kinds s_p0_lineCount s_p0_lines s_p0_marks s_p0_newRow s_p0_points Q) : vCi l D (vT T) yX7_grid wsX7_grid (vr 2 42) [.ref o_p0, .int x_1, .int x_2, .int x_3] (cl_X7_grid T o_p0 a_p0 s_p0_finding s_p0_asked s_p0_newPoints s_p0_newLines s_p0_faultAt s_p0_tries s_p0_things s_p0_goals s_p0_level s_p0_kinds s_p0_lineCount s_p0_lines s_p0_marks s_p0_newRow s_p0_points) (fun v (u : (Int32) × (Int32) × (Nat → Int32) × (Nat → Int32) × (Nat → Int64) × (Nat → Int32) × (Nat → Int64) × (Nat → Int32)) => Q v u.1 u.2.1 u.2.2.1 u.2.2.2.1 u.2.2.2.2.1 u.2.2.2.2.2.1 u.2.2.2.2.2.2.1 u.2.2.2.2.2.2.2) (fun (u : (Int32) × (Int32) × (Nat → Int32) × (Nat → Int32) × (Nat → Int64) × (Nat → Int32) × (Nat → Int64) × (Nat → Int32)) => (cl_X7_grid T o_p0 a_p0 s_p0_finding s_p0_asked u.1 u.2.1 s_p0_faultAt s_p0_tries s_p0_things s_p0_goals s_p0_level u.2.2.1 u.2.2.2.1 u.2.2.2.2.1 u.2.2.2.2.2.1 u.2.2.2.2.2.2.1 u.2.2.2.2.2.2.2)) := by
  refine vC_i (cc := cX7_grid) (nL := 8) (by decide +kernel) rfl ⟨rfl, rfl⟩ (Nat.le_of_ble_eq_true rfl) rfl ?_
  intro E el eD X r
  unfold w_X7_grid at h
  refine v_iload_n X 1 dX7_grid_0 rfl rfl ?_
  refine v_callSi0 X (As := [.int x_1]) (rest := []) 1 (c_X7_isNumber (l := vl E) (D := vD E) (T := T) (x_0 := x_1) h) gX7_grid_X7_isNumber rfl rfl (by decide +kernel) ⟨Nat.zero_le _, Nat.zero_le _⟩ ⟨rfl, rfl, by decide, by decide⟩ (Nat.le_of_ble_eq_true rfl) rfl dX7_grid_1 (fun r_1 h => ?_)
  refine v_if_eq X (tgt := 27) dX7_grid_4 (by decide) (fun c_4 => ?_) (fun c_4 => ?_)
  · replace h := h.1 c_4
    refine v_lv (lv' := []) [] rfl ?_
    exact k_X7_grid_27 X r h
  · replace h := h.2 c_4
    refine v_iload_n X 2 dX7_grid_7 rfl rfl ?_
    refine v_iconst X dX7_grid_8 (v := (2 : Int32)) (by decide) ?_
    refine v_bipush X dX7_grid_9 (v := (6 : Int32)) (by decide) ?_
    refine v_callSi0 X (As := [.int x_2, .int (2 : Int32), .int (6 : Int32)]) (rest := []) 3 (c_X7_in (l := vl E) (D := vD E) (T := T) (x_0 := x_2) (x_1 := (2 : Int32)) (x_2 := (6 : Int32)) h) gX7_grid_X7_in rfl rfl (by decide +kernel) ⟨Nat.zero_le _, Nat.zero_le _⟩ ⟨rfl, rfl, by decide, by decide⟩ (Nat.le_of_ble_eq_true rfl) rfl dX7_grid_11 (fun r_11 h => ?_)
    refine v_if_eq X (tgt := 27) dX7_grid_14 (by decide) (fun c_14 => ?_) (fun c_14 => ?_)
    · replace h := h.1 c_14
      refine v_lv (lv' := []) [] rfl ?_
      exact k_X7_grid_27 X r h
    · replace h := h.2 c_14
      refine v_iload_n X 3 dX7_grid_17 rfl rfl ?_
      refine v_iconst X dX7_grid_18 (v := (2 : Int32)) (by decide) ?_
      refine v_bipush X dX7_grid_19 (v := (6 : Int32)) (by decide) ?_
      refine v_callSi0 X (As := [.int x_3, .int (2 : Int32), .int (6 : Int32)]) (rest := []) 3 (c_X7_in (l := vl E) (D := vD E) (T := T) (x_0 := x_3) (x_1 := (2 : Int32)) (x_2 := (6 : Int32)) h) gX7_grid_X7_in rfl rfl (by decide +kernel) ⟨Nat.zero_le _, Nat.zero_le _⟩ ⟨rfl, rfl, by decide, by decide⟩ (Nat.le_of_ble_eq_true rfl) rfl dX7_grid_21 (fun r_21 h => ?_)
      refine v_if_ne X (tgt := 29) dX7_grid_24 (by decide) (fun c_24 => ?_) (fun c_24 => ?_)
      · replace h := h.1 c_24
        refine v_aload_n X 0 dX7_grid_29 rfl rfl ?_
        refine v_iload_n X 2 dX7_grid_30 rfl rfl ?_
        refine v_iload_n X 3 dX7_grid_31 rfl rfl ?_
        refine v_imul X dX7_grid_32 ?_
        refine v_put X (ws' := (cl_X7_grid T o_p0 a_p0 s_p0_finding s_p0_asked (x_2 * x_3) s_p0_newLines s_p0_faultAt s_p0_tries s_p0_things s_p0_goals s_p0_level s_p0_kinds s_p0_lineCount s_p0_lines s_p0_marks s_p0_newRow s_p0_points)) 0 8 (F := TX7) (N := 33) iX7_grid_X7 rfl tyX7 tyX7_ok nmX7 rfl (by decide) (List.mem_of_getElem? (i := 1) rfl) rfl rfl rfl rfl rfl (Nat.le_of_ble_eq_true rfl) rfl dX7_grid_33 ?_
        refine v_aload_n X 0 dX7_grid_36 rfl rfl ?_
        refine v_iconst X dX7_grid_37 (v := (0 : Int32)) (by decide) ?_
        refine v_put X (ws' := (cl_X7_grid T o_p0 a_p0 s_p0_finding s_p0_asked (x_2 * x_3) (0 : Int32) s_p0_faultAt s_p0_tries s_p0_things s_p0_goals s_p0_level s_p0_kinds s_p0_lineCount s_p0_lines s_p0_marks s_p0_newRow s_p0_points)) 0 9 (F := TX7) (N := 33) iX7_grid_X7 rfl tyX7 tyX7_ok nmX7 rfl (by decide) (List.mem_of_getElem? (i := 2) rfl) rfl rfl rfl rfl rfl (Nat.le_of_ble_eq_true rfl) rfl dX7_grid_38 ?_
        refine v_iconst X dX7_grid_41 (v := (0 : Int32)) (by decide) ?_
        refine v_istore X (lv' := [(4, .int (0 : Int32)), (0, .ref o_p0), (1, .int x_1), (2, .int x_2), (3, .int x_3)]) dX7_grid_42 (by decide) rfl ?_
        refine v_lv (lv' := [(0, .ref o_p0), (1, .int x_1), (2, .int x_2), (3, .int x_3), (4, .int (0 : Int32))]) [1, 2, 3, 4, 0] rfl ?_
        obtain ⟨n_, h⟩ := h
        exact k_X7_grid_44 X r n_ _ _ _ h
      · replace h := h.2 c_24
        refine v_lv (lv' := []) [] rfl ?_
        exact k_X7_grid_27 X r h
-- X7_isPerp
abbrev cl_X7_isPerp (T : Nat → ClassId) (o_p0 : Nat) (a_p0 : Nat → Nat) (s_p0_finding : Int32) (s_p0_asked : Int64) (s_p0_newPoints : Int32) (s_p0_newLines : Int32) (s_p0_faultAt : Int64) (s_p0_tries : Int32) (s_p0_things : Int32) (s_p0_goals : Int32) (s_p0_level : Int32) (s_p0_letters : Nat → Int32) : va_W := [vO o_p0 4 [.int s_p0_finding, .ref (a_p0 1), .long s_p0_asked, .ref (a_p0 3), .ref (a_p0 4), .ref (a_p0 5), .ref (a_p0 6), .ref (a_p0 7), .int s_p0_newPoints, .int s_p0_newLines, .ref (a_p0 10), .ref (a_p0 11), .long s_p0_faultAt, .int s_p0_tries, .int s_p0_things, .int s_p0_goals, .ref (a_p0 16), .ref (a_p0 17), .ref (a_p0 18), .ref (a_p0 19), .ref (a_p0 20), .ref (a_p0 21), .int s_p0_level, .ref (a_p0 23), .ref (a_p0 24), .ref (a_p0 25), .ref (a_p0 26), .ref (a_p0 27), .ref (a_p0 28), .ref (a_p0 29), .ref (a_p0 30), .ref (a_p0 31), .ref (a_p0 32)], vI T (a_p0 11) 160 s_p0_letters]
abbrev r_X7_isPerp (E : vE) (T : Nat → ClassId) (o_p0 : Nat) (a_p0 : Nat → Nat) (s_p0_finding : Int32) (s_p0_asked : Int64) (s_p0_newPoints : Int32) (s_p0_newLines : Int32) (s_p0_faultAt : Int64) (s_p0_tries : Int32) (s_p0_things : Int32) (s_p0_goals : Int32) (s_p0_level : Int32) (s_p0_letters : Nat → Int32) (Q : Int32 → Prop) : Prop := vRz E cX7_isPerp (fun v (u : Unit) => Q v) (fun (u : Unit) => (cl_X7_isPerp T o_p0 a_p0 s_p0_finding s_p0_asked s_p0_newPoints s_p0_newLines s_p0_faultAt s_p0_tries s_p0_things s_p0_goals s_p0_level s_p0_letters))
def w_X7_isPerp_97 (t_0 : Int32) (s_p0_letters : Nat → Int32) (Q : Int32 → Prop) : Prop := (vz t_0 ∧ Q t_0)
def w_X7_isPerp (x_1 : Int32) (x_2 : Int32) (x_3 : Int32) (s_p0_letters : Nat → Int32) (Q : Int32 → Prop) : Prop := (vp_in ((4 : Int32) * x_1) 160 ∧ (vp_in (((4 : Int32) * x_2) + (1 : Int32)) 160 ∧ (vp_in (((4 : Int32) * x_1) + (1 : Int32)) 160 ∧ (vp_in ((4 : Int32) * x_2) 160 ∧ (vp_in (((4 : Int32) * x_1) + (2 : Int32)) 160 ∧ (vp_in (((4 : Int32) * x_2) + (3 : Int32)) 160 ∧ (vp_in (((4 : Int32) * x_1) + (3 : Int32)) 160 ∧ (vp_in (((4 : Int32) * x_2) + (2 : Int32)) 160 ∧ (∀ (y_83 : Int32), y_83 = (((((s_p0_letters (((4 : Int32) * x_1)).toNatClampNeg) * (s_p0_letters ((((4 : Int32) * x_2) + (1 : Int32))).toNatClampNeg)) - ((s_p0_letters ((((4 : Int32) * x_1) + (1 : Int32))).toNatClampNeg) * (s_p0_letters (((4 : Int32) * x_2)).toNatClampNeg))) + ((s_p0_letters ((((4 : Int32) * x_1) + (2 : Int32))).toNatClampNeg) * (s_p0_letters ((((4 : Int32) * x_2) + (3 : Int32))).toNatClampNeg))) - ((s_p0_letters ((((4 : Int32) * x_1) + (3 : Int32))).toNatClampNeg) * (s_p0_letters ((((4 : Int32) * x_2) + (2 : Int32))).toNatClampNeg))) → (¬ x_3 = 0 ∧ ((¬ (vrem y_83 x_3) = 0 → (w_X7_isPerp_97 (0 : Int32) s_p0_letters Q)) ∧ ((vrem y_83 x_3) = 0 → (w_X7_isPerp_97 (1 : Int32) s_p0_letters Q)))))))))))))
-- X7_isPerp
theorem iX7_isPerp_X7 : ∀ w ∈ wsX70, w ∈ wsX7_isPerp := by decide +kernel
set_option maxHeartbeats 4000000 in
set_option maxRecDepth 100000 in
theorem k_X7_isPerp_97 {E : vE} {T : Nat → ClassId} {o_p0 : Nat} {a_p0 : Nat → Nat} {s_p0_finding : Int32} {s_p0_asked : Int64} {s_p0_newPoints : Int32} {s_p0_newLines : Int32} {s_p0_faultAt : Int64} {s_p0_tries : Int32} {s_p0_things : Int32} {s_p0_goals : Int32} {s_p0_level : Int32} {s_p0_letters : Nat → Int32} {t_0 : Int32} {Q : Int32 → Prop} (X : vX E cX7_isPerp 5 RX7 wsX7_isPerp (vT T) (vr 0 0)) (r : r_X7_isPerp E T o_p0 a_p0 s_p0_finding s_p0_asked s_p0_newPoints s_p0_newLines s_p0_faultAt s_p0_tries s_p0_things s_p0_goals s_p0_level s_p0_letters Q) (h : w_X7_isPerp_97 t_0 s_p0_letters Q) : V E 0 0 97 [] [.int t_0] (cl_X7_isPerp T o_p0 a_p0 s_p0_finding s_p0_asked s_p0_newPoints s_p0_newLines s_p0_faultAt s_p0_tries s_p0_things s_p0_goals s_p0_level s_p0_letters) := by
  unfold w_X7_isPerp_97 at h
  exact r _ _ _ () _ dX7_isPerp_97 h.1 h.2 rfl
set_option maxHeartbeats 4000000 in
set_option maxRecDepth 100000 in
theorem c_X7_isPerp {l : Launch} {D : va_G} {T : Nat → ClassId} {o_p0 : Nat} {a_p0 : Nat → Nat} {s_p0_finding : Int32} {s_p0_asked : Int64} {s_p0_newPoints : Int32} {s_p0_newLines : Int32} {s_p0_faultAt : Int64} {s_p0_tries : Int32} {s_p0_things : Int32} {s_p0_goals : Int32} {s_p0_level : Int32} {s_p0_letters : Nat → Int32} {x_1 : Int32} {x_2 : Int32} {x_3 : Int32} {Q : Int32 → Prop} (h : w_X7_isPerp x_1 x_2 x_3 s_p0_letters Q) : vCi l D (vT T) yX7_isPerp wsX7_isPerp (vr 0 0) [.ref o_p0, .int x_1, .int x_2, .int x_3] (cl_X7_isPerp T o_p0 a_p0 s_p0_finding s_p0_asked s_p0_newPoints s_p0_newLines s_p0_faultAt s_p0_tries s_p0_things s_p0_goals s_p0_level s_p0_letters) (fun v (u : Unit) => Q v) (fun (u : Unit) => (cl_X7_isPerp T o_p0 a_p0 s_p0_finding s_p0_asked s_p0_newPoints s_p0_newLines s_p0_faultAt s_p0_tries s_p0_things s_p0_goals s_p0_level s_p0_letters)) := by
  refine vC_z (cc := cX7_isPerp) (nL := 5) (by decide +kernel) rfl ⟨rfl, rfl⟩ (Nat.le_of_ble_eq_true rfl) rfl ?_
  intro E el eD X r
  unfold w_X7_isPerp at h
  refine v_aload_n X 0 dX7_isPerp_0 rfl rfl ?_
  refine v_get X 0 11 (F := TX7) (N := 33) iX7_isPerp_X7 rfl rfl (by decide) (List.mem_of_getElem? (i := 1) rfl) rfl rfl dX7_isPerp_1 ?_
  refine v_iconst X dX7_isPerp_4 (v := (4 : Int32)) (by decide) ?_
  refine v_iload_n X 1 dX7_isPerp_5 rfl rfl ?_
  refine v_imul X dX7_isPerp_6 ?_
  refine v_iald X 1 0 rfl rfl h.1 dX7_isPerp_7 ?_
  replace h := h.2
  refine v_aload_n X 0 dX7_isPerp_8 rfl rfl ?_
  refine v_get X 0 11 (F := TX7) (N := 33) iX7_isPerp_X7 rfl rfl (by decide) (List.mem_of_getElem? (i := 1) rfl) rfl rfl dX7_isPerp_9 ?_
  refine v_iconst X dX7_isPerp_12 (v := (4 : Int32)) (by decide) ?_
  refine v_iload_n X 2 dX7_isPerp_13 rfl rfl ?_
  refine v_imul X dX7_isPerp_14 ?_
  refine v_iconst X dX7_isPerp_15 (v := (1 : Int32)) (by decide) ?_
  refine v_iadd X dX7_isPerp_16 ?_
  refine v_iald X 1 0 rfl rfl h.1 dX7_isPerp_17 ?_
  replace h := h.2
  refine v_imul X dX7_isPerp_18 ?_
  refine v_aload_n X 0 dX7_isPerp_19 rfl rfl ?_
  refine v_get X 0 11 (F := TX7) (N := 33) iX7_isPerp_X7 rfl rfl (by decide) (List.mem_of_getElem? (i := 1) rfl) rfl rfl dX7_isPerp_20 ?_
  refine v_iconst X dX7_isPerp_23 (v := (4 : Int32)) (by decide) ?_
  refine v_iload_n X 1 dX7_isPerp_24 rfl rfl ?_
  refine v_imul X dX7_isPerp_25 ?_
  refine v_iconst X dX7_isPerp_26 (v := (1 : Int32)) (by decide) ?_
  refine v_iadd X dX7_isPerp_27 ?_
  refine v_iald X 1 0 rfl rfl h.1 dX7_isPerp_28 ?_
  replace h := h.2
  refine v_aload_n X 0 dX7_isPerp_29 rfl rfl ?_
  refine v_get X 0 11 (F := TX7) (N := 33) iX7_isPerp_X7 rfl rfl (by decide) (List.mem_of_getElem? (i := 1) rfl) rfl rfl dX7_isPerp_30 ?_
  refine v_iconst X dX7_isPerp_33 (v := (4 : Int32)) (by decide) ?_
  refine v_iload_n X 2 dX7_isPerp_34 rfl rfl ?_
  refine v_imul X dX7_isPerp_35 ?_
  refine v_iald X 1 0 rfl rfl h.1 dX7_isPerp_36 ?_
  replace h := h.2
  refine v_imul X dX7_isPerp_37 ?_
  refine v_isub X dX7_isPerp_38 ?_
  refine v_aload_n X 0 dX7_isPerp_39 rfl rfl ?_
  refine v_get X 0 11 (F := TX7) (N := 33) iX7_isPerp_X7 rfl rfl (by decide) (List.mem_of_getElem? (i := 1) rfl) rfl rfl dX7_isPerp_40 ?_
  refine v_iconst X dX7_isPerp_43 (v := (4 : Int32)) (by decide) ?_
  refine v_iload_n X 1 dX7_isPerp_44 rfl rfl ?_
  refine v_imul X dX7_isPerp_45 ?_
  refine v_iconst X dX7_isPerp_46 (v := (2 : Int32)) (by decide) ?_
  refine v_iadd X dX7_isPerp_47 ?_
  refine v_iald X 1 0 rfl rfl h.1 dX7_isPerp_48 ?_
  replace h := h.2
  refine v_aload_n X 0 dX7_isPerp_49 rfl rfl ?_
  refine v_get X 0 11 (F := TX7) (N := 33) iX7_isPerp_X7 rfl rfl (by decide) (List.mem_of_getElem? (i := 1) rfl) rfl rfl dX7_isPerp_50 ?_
  refine v_iconst X dX7_isPerp_53 (v := (4 : Int32)) (by decide) ?_
  refine v_iload_n X 2 dX7_isPerp_54 rfl rfl ?_
  refine v_imul X dX7_isPerp_55 ?_
  refine v_iconst X dX7_isPerp_56 (v := (3 : Int32)) (by decide) ?_
  refine v_iadd X dX7_isPerp_57 ?_
  refine v_iald X 1 0 rfl rfl h.1 dX7_isPerp_58 ?_
  replace h := h.2
  refine v_imul X dX7_isPerp_59 ?_
  refine v_iadd X dX7_isPerp_60 ?_
  refine v_aload_n X 0 dX7_isPerp_61 rfl rfl ?_
  refine v_get X 0 11 (F := TX7) (N := 33) iX7_isPerp_X7 rfl rfl (by decide) (List.mem_of_getElem? (i := 1) rfl) rfl rfl dX7_isPerp_62 ?_
  refine v_iconst X dX7_isPerp_65 (v := (4 : Int32)) (by decide) ?_
  refine v_iload_n X 1 dX7_isPerp_66 rfl rfl ?_
  refine v_imul X dX7_isPerp_67 ?_
  refine v_iconst X dX7_isPerp_68 (v := (3 : Int32)) (by decide) ?_
  refine v_iadd X dX7_isPerp_69 ?_
  refine v_iald X 1 0 rfl rfl h.1 dX7_isPerp_70 ?_
  replace h := h.2
  refine v_aload_n X 0 dX7_isPerp_71 rfl rfl ?_
  refine v_get X 0 11 (F := TX7) (N := 33) iX7_isPerp_X7 rfl rfl (by decide) (List.mem_of_getElem? (i := 1) rfl) rfl rfl dX7_isPerp_72 ?_
  refine v_iconst X dX7_isPerp_75 (v := (4 : Int32)) (by decide) ?_
  refine v_iload_n X 2 dX7_isPerp_76 rfl rfl ?_
  refine v_imul X dX7_isPerp_77 ?_
  refine v_iconst X dX7_isPerp_78 (v := (2 : Int32)) (by decide) ?_
  refine v_iadd X dX7_isPerp_79 ?_
  refine v_iald X 1 0 rfl rfl h.1 dX7_isPerp_80 ?_
  replace h := h.2
  refine v_imul X dX7_isPerp_81 ?_
  refine v_isub X dX7_isPerp_82 ?_
  refine v_topi (fun y_83 e_83 => ?_)
  replace h := h y_83 e_83
  refine v_istore X (lv' := [(4, .int y_83), (0, .ref o_p0), (1, .int x_1), (2, .int x_2), (3, .int x_3)]) dX7_isPerp_83 (by decide) rfl ?_
  refine v_iload X 0 dX7_isPerp_85 rfl ?_
  refine v_iload_n X 4 dX7_isPerp_87 rfl rfl ?_
  refine v_irem X dX7_isPerp_88 h.1 ?_
  replace h := h.2
  refine v_if_ne X (tgt := 96) dX7_isPerp_89 (by decide) (fun c_89 => ?_) (fun c_89 => ?_)
  · replace h := h.1 c_89
    refine v_iconst X dX7_isPerp_96 (v := (0 : Int32)) (by decide) ?_
    refine v_lv (lv' := []) [] rfl ?_
    exact k_X7_isPerp_97 X r h
  · replace h := h.2 c_89
    refine v_iconst X dX7_isPerp_92 (v := (1 : Int32)) (by decide) ?_
    refine v_goto X (tgt := 97) dX7_isPerp_93 (by decide) ?_
    refine v_lv (lv' := []) [] rfl ?_
    exact k_X7_isPerp_97 X r h
-- X7_lineOf
abbrev cl_X7_lineOf (T : Nat → ClassId) (o_p0 : Nat) (a_p0 : Nat → Nat) (s_p0_finding : Int32) (s_p0_asked : Int64) (s_p0_newPoints : Int32) (s_p0_newLines : Int32) (s_p0_faultAt : Int64) (s_p0_tries : Int32) (s_p0_things : Int32) (s_p0_goals : Int32) (s_p0_level : Int32) (s_p0_letters : Nat → Int32) : va_W := [vO o_p0 4 [.int s_p0_finding, .ref (a_p0 1), .long s_p0_asked, .ref (a_p0 3), .ref (a_p0 4), .ref (a_p0 5), .ref (a_p0 6), .ref (a_p0 7), .int s_p0_newPoints, .int s_p0_newLines, .ref (a_p0 10), .ref (a_p0 11), .long s_p0_faultAt, .int s_p0_tries, .int s_p0_things, .int s_p0_goals, .ref (a_p0 16), .ref (a_p0 17), .ref (a_p0 18), .ref (a_p0 19), .ref (a_p0 20), .ref (a_p0 21), .int s_p0_level, .ref (a_p0 23), .ref (a_p0 24), .ref (a_p0 25), .ref (a_p0 26), .ref (a_p0 27), .ref (a_p0 28), .ref (a_p0 29), .ref (a_p0 30), .ref (a_p0 31), .ref (a_p0 32)], vI T (a_p0 11) 160 s_p0_letters]
abbrev r_X7_lineOf (E : vE) (T : Nat → ClassId) (o_p0 : Nat) (a_p0 : Nat → Nat) (s_p0_finding : Int32) (s_p0_asked : Int64) (s_p0_newPoints : Int32) (s_p0_newLines : Int32) (s_p0_faultAt : Int64) (s_p0_tries : Int32) (s_p0_things : Int32) (s_p0_goals : Int32) (s_p0_level : Int32) (s_p0_letters : Nat → Int32) (Q : Int64 → Prop) : Prop := vRl E cX7_lineOf (fun v (u : Unit) => Q v) (fun (u : Unit) => (cl_X7_lineOf T o_p0 a_p0 s_p0_finding s_p0_asked s_p0_newPoints s_p0_newLines s_p0_faultAt s_p0_tries s_p0_things s_p0_goals s_p0_level s_p0_letters))
def w_X7_lineOf_131 (x_1 : Int32) (x_2 : Int32) (x_3 : Int32) (x_6 : Int32) (x_7 : Int32) (x_8 : Int32) (t_0 : Int64) (t_1 : Int64) (s_p0_newPoints : Int32) (s_p0_letters : Nat → Int32) (K_12 : (Int64) → (Int32) → Prop) (K_24 : (Int64) → (Int32) → Prop) (K_33 : (Int64) → (Int32) → Prop) (Q : Int64 → Prop) : Prop := (K_33 (t_0 ||| t_1) (x_8 + (1 : Int32)))
def w_X7_lineOf_108 (x_1 : Int32) (x_2 : Int32) (x_3 : Int32) (x_4 : Int64) (x_6 : Int32) (x_7 : Int32) (x_8 : Int32) (x_10 : Int32) (t_0 : Int32) (s_p0_newPoints : Int32) (s_p0_letters : Nat → Int32) (K_12 : (Int64) → (Int32) → Prop) (K_24 : (Int64) → (Int32) → Prop) (K_33 : (Int64) → (Int32) → Prop) (K_45 : (Int32) → (Int32) → Prop) (Q : Int64 → Prop) : Prop := (K_45 t_0 (x_10 + (1 : Int32)))
def w_X7_lineOf_107 (x_1 : Int32) (x_2 : Int32) (x_3 : Int32) (x_4 : Int64) (x_6 : Int32) (x_7 : Int32) (x_8 : Int32) (x_10 : Int32) (s_p0_newPoints : Int32) (s_p0_letters : Nat → Int32) (K_12 : (Int64) → (Int32) → Prop) (K_24 : (Int64) → (Int32) → Prop) (K_33 : (Int64) → (Int32) → Prop) (K_45 : (Int32) → (Int32) → Prop) (Q : Int64 → Prop) : Prop := (w_X7_lineOf_108 x_1 x_2 x_3 x_4 x_6 x_7 x_8 x_10 (0 : Int32) s_p0_newPoints s_p0_letters K_12 K_24 K_33 K_45 Q)
def w_X7_lineOf_45s (x_1 : Int32) (x_2 : Int32) (x_3 : Int32) (x_4 : Int64) (x_6 : Int32) (x_7 : Int32) (x_8 : Int32) (s_p0_newPoints : Int32) (s_p0_letters : Nat → Int32) (K_12 : (Int64) → (Int32) → Prop) (K_24 : (Int64) → (Int32) → Prop) (K_33 : (Int64) → (Int32) → Prop) (Q : Int64 → Prop) (K_45 : (Int32) → (Int32) → Prop) (x_9 : Int32) (x_10 : Int32) : Prop := (((4 : Int32) ≤ x_10 → ((x_9 = 0 → (w_X7_lineOf_131 x_1 x_2 x_3 x_6 x_7 x_8 x_4 (0 : Int64) s_p0_newPoints s_p0_letters K_12 K_24 K_33 Q)) ∧ (¬ x_9 = 0 → (w_X7_lineOf_131 x_1 x_2 x_3 x_6 x_7 x_8 x_4 (vshl (1 : Int64) x_6) s_p0_newPoints s_p0_letters K_12 K_24 K_33 Q)))) ∧ (¬ (4 : Int32) ≤ x_10 → ((x_9 = 0 → (w_X7_lineOf_107 x_1 x_2 x_3 x_4 x_6 x_7 x_8 x_10 s_p0_newPoints s_p0_letters K_12 K_24 K_33 K_45 Q)) ∧ (¬ x_9 = 0 → (vp_in (((4 : Int32) * x_1) + x_10) 160 ∧ (vp_in (((4 : Int32) * x_2) + x_10) 160 ∧ (vp_in (((4 : Int32) * x_6) + x_10) 160 ∧ (¬ x_3 = 0 ∧ ((¬ (vrem (((x_7 * (s_p0_letters ((((4 : Int32) * x_1) + x_10)).toNatClampNeg)) + (x_8 * (s_p0_letters ((((4 : Int32) * x_2) + x_10)).toNatClampNeg))) - (s_p0_letters ((((4 : Int32) * x_6) + x_10)).toNatClampNeg)) x_3) = 0 → (w_X7_lineOf_107 x_1 x_2 x_3 x_4 x_6 x_7 x_8 x_10 s_p0_newPoints s_p0_letters K_12 K_24 K_33 K_45 Q)) ∧ ((vrem (((x_7 * (s_p0_letters ((((4 : Int32) * x_1) + x_10)).toNatClampNeg)) + (x_8 * (s_p0_letters ((((4 : Int32) * x_2) + x_10)).toNatClampNeg))) - (s_p0_letters ((((4 : Int32) * x_6) + x_10)).toNatClampNeg)) x_3) = 0 → (w_X7_lineOf_108 x_1 x_2 x_3 x_4 x_6 x_7 x_8 x_10 (1 : Int32) s_p0_newPoints s_p0_letters K_12 K_24 K_33 K_45 Q)))))))))))
def w_X7_lineOf_45 (x_1 : Int32) (x_2 : Int32) (x_3 : Int32) (x_4 : Int64) (x_6 : Int32) (x_7 : Int32) (x_8 : Int32) (s_p0_newPoints : Int32) (s_p0_letters : Nat → Int32) (K_12 : (Int64) → (Int32) → Prop) (K_24 : (Int64) → (Int32) → Prop) (K_33 : (Int64) → (Int32) → Prop) (Q : Int64 → Prop) : Nat → (Int32) → (Int32) → Prop
  | 0 => fun _ _ => False
  | n_ + 1 => w_X7_lineOf_45s x_1 x_2 x_3 x_4 x_6 x_7 x_8 s_p0_newPoints s_p0_letters K_12 K_24 K_33 Q (w_X7_lineOf_45 x_1 x_2 x_3 x_4 x_6 x_7 x_8 s_p0_newPoints s_p0_letters K_12 K_24 K_33 Q n_)
def w_X7_lineOf_33s (x_1 : Int32) (x_2 : Int32) (x_3 : Int32) (x_6 : Int32) (x_7 : Int32) (s_p0_newPoints : Int32) (s_p0_letters : Nat → Int32) (K_12 : (Int64) → (Int32) → Prop) (K_24 : (Int64) → (Int32) → Prop) (Q : Int64 → Prop) (K_33 : (Int64) → (Int32) → Prop) (x_4 : Int64) (x_8 : Int32) : Prop := ((x_3 ≤ x_8 → (K_24 x_4 (x_7 + (1 : Int32)))) ∧ (¬ x_3 ≤ x_8 → (∃ n_, w_X7_lineOf_45 x_1 x_2 x_3 x_4 x_6 x_7 x_8 s_p0_newPoints s_p0_letters K_12 K_24 K_33 Q n_ (1 : Int32) (0 : Int32))))
def w_X7_lineOf_33 (x_1 : Int32) (x_2 : Int32) (x_3 : Int32) (x_6 : Int32) (x_7 : Int32) (s_p0_newPoints : Int32) (s_p0_letters : Nat → Int32) (K_12 : (Int64) → (Int32) → Prop) (K_24 : (Int64) → (Int32) → Prop) (Q : Int64 → Prop) : Nat → (Int64) → (Int32) → Prop
  | 0 => fun _ _ => False
  | n_ + 1 => w_X7_lineOf_33s x_1 x_2 x_3 x_6 x_7 s_p0_newPoints s_p0_letters K_12 K_24 Q (w_X7_lineOf_33 x_1 x_2 x_3 x_6 x_7 s_p0_newPoints s_p0_letters K_12 K_24 Q n_)
def w_X7_lineOf_24s (x_1 : Int32) (x_2 : Int32) (x_3 : Int32) (x_6 : Int32) (s_p0_newPoints : Int32) (s_p0_letters : Nat → Int32) (K_12 : (Int64) → (Int32) → Prop) (Q : Int64 → Prop) (K_24 : (Int64) → (Int32) → Prop) (x_4 : Int64) (x_7 : Int32) : Prop := ((x_3 ≤ x_7 → (K_12 x_4 (x_6 + (1 : Int32)))) ∧ (¬ x_3 ≤ x_7 → (∃ n_, w_X7_lineOf_33 x_1 x_2 x_3 x_6 x_7 s_p0_newPoints s_p0_letters K_12 K_24 Q n_ x_4 (1 : Int32))))
def w_X7_lineOf_24 (x_1 : Int32) (x_2 : Int32) (x_3 : Int32) (x_6 : Int32) (s_p0_newPoints : Int32) (s_p0_letters : Nat → Int32) (K_12 : (Int64) → (Int32) → Prop) (Q : Int64 → Prop) : Nat → (Int64) → (Int32) → Prop
  | 0 => fun _ _ => False
  | n_ + 1 => w_X7_lineOf_24s x_1 x_2 x_3 x_6 s_p0_newPoints s_p0_letters K_12 Q (w_X7_lineOf_24 x_1 x_2 x_3 x_6 s_p0_newPoints s_p0_letters K_12 Q n_)
def w_X7_lineOf_12s (x_1 : Int32) (x_2 : Int32) (x_3 : Int32) (s_p0_newPoints : Int32) (s_p0_letters : Nat → Int32) (Q : Int64 → Prop) (K_12 : (Int64) → (Int32) → Prop) (x_4 : Int64) (x_6 : Int32) : Prop := ((s_p0_newPoints ≤ x_6 → (Q x_4)) ∧ (¬ s_p0_newPoints ≤ x_6 → (∃ n_, w_X7_lineOf_24 x_1 x_2 x_3 x_6 s_p0_newPoints s_p0_letters K_12 Q n_ x_4 (1 : Int32))))
def w_X7_lineOf_12 (x_1 : Int32) (x_2 : Int32) (x_3 : Int32) (s_p0_newPoints : Int32) (s_p0_letters : Nat → Int32) (Q : Int64 → Prop) : Nat → (Int64) → (Int32) → Prop
  | 0 => fun _ _ => False
  | n_ + 1 => w_X7_lineOf_12s x_1 x_2 x_3 s_p0_newPoints s_p0_letters Q (w_X7_lineOf_12 x_1 x_2 x_3 s_p0_newPoints s_p0_letters Q n_)
def w_X7_lineOf (x_1 : Int32) (x_2 : Int32) (x_3 : Int32) (s_p0_newPoints : Int32) (s_p0_letters : Nat → Int32) (Q : Int64 → Prop) : Prop := (∃ n_, w_X7_lineOf_12 x_1 x_2 x_3 s_p0_newPoints s_p0_letters Q n_ ((vshl (1 : Int64) x_1) ||| (vshl (1 : Int64) x_2)) (0 : Int32))
-- X7_lineOf
theorem iX7_lineOf_X7 : ∀ w ∈ wsX70, w ∈ wsX7_lineOf := by decide +kernel
set_option maxHeartbeats 4000000 in
set_option maxRecDepth 100000 in
theorem k_X7_lineOf_131 {E : vE} {T : Nat → ClassId} {o_p0 : Nat} {a_p0 : Nat → Nat} {s_p0_finding : Int32} {s_p0_asked : Int64} {s_p0_newPoints : Int32} {s_p0_newLines : Int32} {s_p0_faultAt : Int64} {s_p0_tries : Int32} {s_p0_things : Int32} {s_p0_goals : Int32} {s_p0_level : Int32} {s_p0_letters : Nat → Int32} {x_1 : Int32} {x_2 : Int32} {x_3 : Int32} {x_6 : Int32} {x_7 : Int32} {x_8 : Int32} {t_0 : Int64} {t_1 : Int64} {K_12 : (Int64) → (Int32) → Prop} {K_24 : (Int64) → (Int32) → Prop} {K_33 : (Int64) → (Int32) → Prop} {Q : Int64 → Prop} (X : vX E cX7_lineOf 11 RX7 wsX7_lineOf (vT T) (vr 0 0)) (r : r_X7_lineOf E T o_p0 a_p0 s_p0_finding s_p0_asked s_p0_newPoints s_p0_newLines s_p0_faultAt s_p0_tries s_p0_things s_p0_goals s_p0_level s_p0_letters Q) (hK_12 : ∀ (x_4' : Int64) (x_6' : Int32), K_12 x_4' x_6' → V E 0 0 12 [(0, .ref o_p0), (1, .int x_1), (2, .int x_2), (3, .int x_3), (4, .long x_4'), (6, .int x_6')] [] (cl_X7_lineOf T o_p0 a_p0 s_p0_finding s_p0_asked s_p0_newPoints s_p0_newLines s_p0_faultAt s_p0_tries s_p0_things s_p0_goals s_p0_level s_p0_letters)) (hK_24 : ∀ (x_4' : Int64) (x_7' : Int32), K_24 x_4' x_7' → V E 0 0 24 [(0, .ref o_p0), (1, .int x_1), (2, .int x_2), (3, .int x_3), (4, .long x_4'), (6, .int x_6), (7, .int x_7')] [] (cl_X7_lineOf T o_p0 a_p0 s_p0_finding s_p0_asked s_p0_newPoints s_p0_newLines s_p0_faultAt s_p0_tries s_p0_things s_p0_goals s_p0_level s_p0_letters)) (hK_33 : ∀ (x_4' : Int64) (x_8' : Int32), K_33 x_4' x_8' → V E 0 0 33 [(0, .ref o_p0), (1, .int x_1), (2, .int x_2), (3, .int x_3), (4, .long x_4'), (6, .int x_6), (7, .int x_7), (8, .int x_8')] [] (cl_X7_lineOf T o_p0 a_p0 s_p0_finding s_p0_asked s_p0_newPoints s_p0_newLines s_p0_faultAt s_p0_tries s_p0_things s_p0_goals s_p0_level s_p0_letters)) (h : w_X7_lineOf_131 x_1 x_2 x_3 x_6 x_7 x_8 t_0 t_1 s_p0_newPoints s_p0_letters K_12 K_24 K_33 Q) : V E 0 0 131 [(0, .ref o_p0), (1, .int x_1), (2, .int x_2), (3, .int x_3), (6, .int x_6), (7, .int x_7), (8, .int x_8)] [.long t_1, .long t_0] (cl_X7_lineOf T o_p0 a_p0 s_p0_finding s_p0_asked s_p0_newPoints s_p0_newLines s_p0_faultAt s_p0_tries s_p0_things s_p0_goals s_p0_level s_p0_letters) := by
  unfold w_X7_lineOf_131 at h
  refine v_lor X dX7_lineOf_131 ?_
  refine v_lstore X (lv' := [(4, .long (t_0 ||| t_1)), (0, .ref o_p0), (1, .int x_1), (2, .int x_2), (3, .int x_3), (6, .int x_6), (7, .int x_7), (8, .int x_8)]) dX7_lineOf_132 (by decide) rfl ?_
  refine v_iinc X (v := (x_8 + (1 : Int32))) (lv' := [(8, .int (x_8 + (1 : Int32))), (4, .long (t_0 ||| t_1)), (0, .ref o_p0), (1, .int x_1), (2, .int x_2), (3, .int x_3), (6, .int x_6), (7, .int x_7)]) 7 dX7_lineOf_134 rfl rfl (by decide) rfl ?_
  refine v_goto X (tgt := 33) dX7_lineOf_137 (by decide) ?_
  refine v_lv (lv' := [(0, .ref o_p0), (1, .int x_1), (2, .int x_2), (3, .int x_3), (4, .long (t_0 ||| t_1)), (6, .int x_6), (7, .int x_7), (8, .int (x_8 + (1 : Int32)))]) [2, 3, 4, 5, 1, 6, 7, 0] rfl ?_
  exact hK_33 _ _ h
set_option maxHeartbeats 4000000 in
set_option maxRecDepth 100000 in
theorem k_X7_lineOf_108 {E : vE} {T : Nat → ClassId} {o_p0 : Nat} {a_p0 : Nat → Nat} {s_p0_finding : Int32} {s_p0_asked : Int64} {s_p0_newPoints : Int32} {s_p0_newLines : Int32} {s_p0_faultAt : Int64} {s_p0_tries : Int32} {s_p0_things : Int32} {s_p0_goals : Int32} {s_p0_level : Int32} {s_p0_letters : Nat → Int32} {x_1 : Int32} {x_2 : Int32} {x_3 : Int32} {x_4 : Int64} {x_6 : Int32} {x_7 : Int32} {x_8 : Int32} {x_10 : Int32} {t_0 : Int32} {K_12 : (Int64) → (Int32) → Prop} {K_24 : (Int64) → (Int32) → Prop} {K_33 : (Int64) → (Int32) → Prop} {K_45 : (Int32) → (Int32) → Prop} {Q : Int64 → Prop} (X : vX E cX7_lineOf 11 RX7 wsX7_lineOf (vT T) (vr 0 0)) (r : r_X7_lineOf E T o_p0 a_p0 s_p0_finding s_p0_asked s_p0_newPoints s_p0_newLines s_p0_faultAt s_p0_tries s_p0_things s_p0_goals s_p0_level s_p0_letters Q) (hK_12 : ∀ (x_4' : Int64) (x_6' : Int32), K_12 x_4' x_6' → V E 0 0 12 [(0, .ref o_p0), (1, .int x_1), (2, .int x_2), (3, .int x_3), (4, .long x_4'), (6, .int x_6')] [] (cl_X7_lineOf T o_p0 a_p0 s_p0_finding s_p0_asked s_p0_newPoints s_p0_newLines s_p0_faultAt s_p0_tries s_p0_things s_p0_goals s_p0_level s_p0_letters)) (hK_24 : ∀ (x_4' : Int64) (x_7' : Int32), K_24 x_4' x_7' → V E 0 0 24 [(0, .ref o_p0), (1, .int x_1), (2, .int x_2), (3, .int x_3), (4, .long x_4'), (6, .int x_6), (7, .int x_7')] [] (cl_X7_lineOf T o_p0 a_p0 s_p0_finding s_p0_asked s_p0_newPoints s_p0_newLines s_p0_faultAt s_p0_tries s_p0_things s_p0_goals s_p0_level s_p0_letters)) (hK_33 : ∀ (x_4' : Int64) (x_8' : Int32), K_33 x_4' x_8' → V E 0 0 33 [(0, .ref o_p0), (1, .int x_1), (2, .int x_2), (3, .int x_3), (4, .long x_4'), (6, .int x_6), (7, .int x_7), (8, .int x_8')] [] (cl_X7_lineOf T o_p0 a_p0 s_p0_finding s_p0_asked s_p0_newPoints s_p0_newLines s_p0_faultAt s_p0_tries s_p0_things s_p0_goals s_p0_level s_p0_letters)) (hK_45 : ∀ (x_9' : Int32) (x_10' : Int32), K_45 x_9' x_10' → V E 0 0 45 [(0, .ref o_p0), (1, .int x_1), (2, .int x_2), (3, .int x_3), (4, .long x_4), (6, .int x_6), (7, .int x_7), (8, .int x_8), (9, .int x_9'), (10, .int x_10')] [] (cl_X7_lineOf T o_p0 a_p0 s_p0_finding s_p0_asked s_p0_newPoints s_p0_newLines s_p0_faultAt s_p0_tries s_p0_things s_p0_goals s_p0_level s_p0_letters)) (h : w_X7_lineOf_108 x_1 x_2 x_3 x_4 x_6 x_7 x_8 x_10 t_0 s_p0_newPoints s_p0_letters K_12 K_24 K_33 K_45 Q) : V E 0 0 108 [(0, .ref o_p0), (1, .int x_1), (2, .int x_2), (3, .int x_3), (4, .long x_4), (6, .int x_6), (7, .int x_7), (8, .int x_8), (10, .int x_10)] [.int t_0] (cl_X7_lineOf T o_p0 a_p0 s_p0_finding s_p0_asked s_p0_newPoints s_p0_newLines s_p0_faultAt s_p0_tries s_p0_things s_p0_goals s_p0_level s_p0_letters) := by
  unfold w_X7_lineOf_108 at h
  refine v_istore X (lv' := [(9, .int t_0), (0, .ref o_p0), (1, .int x_1), (2, .int x_2), (3, .int x_3), (4, .long x_4), (6, .int x_6), (7, .int x_7), (8, .int x_8), (10, .int x_10)]) dX7_lineOf_108 (by decide) rfl ?_
  refine v_iinc X (v := (x_10 + (1 : Int32))) (lv' := [(10, .int (x_10 + (1 : Int32))), (9, .int t_0), (0, .ref o_p0), (1, .int x_1), (2, .int x_2), (3, .int x_3), (4, .long x_4), (6, .int x_6), (7, .int x_7), (8, .int x_8)]) 9 dX7_lineOf_110 rfl rfl (by decide) rfl ?_
  refine v_goto X (tgt := 45) dX7_lineOf_113 (by decide) ?_
  refine v_lv (lv' := [(0, .ref o_p0), (1, .int x_1), (2, .int x_2), (3, .int x_3), (4, .long x_4), (6, .int x_6), (7, .int x_7), (8, .int x_8), (9, .int t_0), (10, .int (x_10 + (1 : Int32)))]) [2, 3, 4, 5, 6, 7, 8, 9, 1, 0] rfl ?_
  exact hK_45 _ _ h
set_option maxHeartbeats 4000000 in
set_option maxRecDepth 100000 in
theorem k_X7_lineOf_107 {E : vE} {T : Nat → ClassId} {o_p0 : Nat} {a_p0 : Nat → Nat} {s_p0_finding : Int32} {s_p0_asked : Int64} {s_p0_newPoints : Int32} {s_p0_newLines : Int32} {s_p0_faultAt : Int64} {s_p0_tries : Int32} {s_p0_things : Int32} {s_p0_goals : Int32} {s_p0_level : Int32} {s_p0_letters : Nat → Int32} {x_1 : Int32} {x_2 : Int32} {x_3 : Int32} {x_4 : Int64} {x_6 : Int32} {x_7 : Int32} {x_8 : Int32} {x_10 : Int32} {K_12 : (Int64) → (Int32) → Prop} {K_24 : (Int64) → (Int32) → Prop} {K_33 : (Int64) → (Int32) → Prop} {K_45 : (Int32) → (Int32) → Prop} {Q : Int64 → Prop} (X : vX E cX7_lineOf 11 RX7 wsX7_lineOf (vT T) (vr 0 0)) (r : r_X7_lineOf E T o_p0 a_p0 s_p0_finding s_p0_asked s_p0_newPoints s_p0_newLines s_p0_faultAt s_p0_tries s_p0_things s_p0_goals s_p0_level s_p0_letters Q) (hK_12 : ∀ (x_4' : Int64) (x_6' : Int32), K_12 x_4' x_6' → V E 0 0 12 [(0, .ref o_p0), (1, .int x_1), (2, .int x_2), (3, .int x_3), (4, .long x_4'), (6, .int x_6')] [] (cl_X7_lineOf T o_p0 a_p0 s_p0_finding s_p0_asked s_p0_newPoints s_p0_newLines s_p0_faultAt s_p0_tries s_p0_things s_p0_goals s_p0_level s_p0_letters)) (hK_24 : ∀ (x_4' : Int64) (x_7' : Int32), K_24 x_4' x_7' → V E 0 0 24 [(0, .ref o_p0), (1, .int x_1), (2, .int x_2), (3, .int x_3), (4, .long x_4'), (6, .int x_6), (7, .int x_7')] [] (cl_X7_lineOf T o_p0 a_p0 s_p0_finding s_p0_asked s_p0_newPoints s_p0_newLines s_p0_faultAt s_p0_tries s_p0_things s_p0_goals s_p0_level s_p0_letters)) (hK_33 : ∀ (x_4' : Int64) (x_8' : Int32), K_33 x_4' x_8' → V E 0 0 33 [(0, .ref o_p0), (1, .int x_1), (2, .int x_2), (3, .int x_3), (4, .long x_4'), (6, .int x_6), (7, .int x_7), (8, .int x_8')] [] (cl_X7_lineOf T o_p0 a_p0 s_p0_finding s_p0_asked s_p0_newPoints s_p0_newLines s_p0_faultAt s_p0_tries s_p0_things s_p0_goals s_p0_level s_p0_letters)) (hK_45 : ∀ (x_9' : Int32) (x_10' : Int32), K_45 x_9' x_10' → V E 0 0 45 [(0, .ref o_p0), (1, .int x_1), (2, .int x_2), (3, .int x_3), (4, .long x_4), (6, .int x_6), (7, .int x_7), (8, .int x_8), (9, .int x_9'), (10, .int x_10')] [] (cl_X7_lineOf T o_p0 a_p0 s_p0_finding s_p0_asked s_p0_newPoints s_p0_newLines s_p0_faultAt s_p0_tries s_p0_things s_p0_goals s_p0_level s_p0_letters)) (h : w_X7_lineOf_107 x_1 x_2 x_3 x_4 x_6 x_7 x_8 x_10 s_p0_newPoints s_p0_letters K_12 K_24 K_33 K_45 Q) : V E 0 0 107 [(0, .ref o_p0), (1, .int x_1), (2, .int x_2), (3, .int x_3), (4, .long x_4), (6, .int x_6), (7, .int x_7), (8, .int x_8), (10, .int x_10)] [] (cl_X7_lineOf T o_p0 a_p0 s_p0_finding s_p0_asked s_p0_newPoints s_p0_newLines s_p0_faultAt s_p0_tries s_p0_things s_p0_goals s_p0_level s_p0_letters) := by
  unfold w_X7_lineOf_107 at h
  refine v_iconst X dX7_lineOf_107 (v := (0 : Int32)) (by decide) ?_
  exact k_X7_lineOf_108 X r hK_12 hK_24 hK_33 hK_45 h
set_option maxHeartbeats 4000000 in
set_option maxRecDepth 100000 in
theorem k_X7_lineOf_45 {E : vE} {T : Nat → ClassId} {o_p0 : Nat} {a_p0 : Nat → Nat} {s_p0_finding : Int32} {s_p0_asked : Int64} {s_p0_newPoints : Int32} {s_p0_newLines : Int32} {s_p0_faultAt : Int64} {s_p0_tries : Int32} {s_p0_things : Int32} {s_p0_goals : Int32} {s_p0_level : Int32} {s_p0_letters : Nat → Int32} {x_1 : Int32} {x_2 : Int32} {x_3 : Int32} {x_4 : Int64} {x_6 : Int32} {x_7 : Int32} {x_8 : Int32} {K_12 : (Int64) → (Int32) → Prop} {K_24 : (Int64) → (Int32) → Prop} {K_33 : (Int64) → (Int32) → Prop} {Q : Int64 → Prop} (X : vX E cX7_lineOf 11 RX7 wsX7_lineOf (vT T) (vr 0 0)) (r : r_X7_lineOf E T o_p0 a_p0 s_p0_finding s_p0_asked s_p0_newPoints s_p0_newLines s_p0_faultAt s_p0_tries s_p0_things s_p0_goals s_p0_level s_p0_letters Q) (hK_12 : ∀ (x_4' : Int64) (x_6' : Int32), K_12 x_4' x_6' → V E 0 0 12 [(0, .ref o_p0), (1, .int x_1), (2, .int x_2), (3, .int x_3), (4, .long x_4'), (6, .int x_6')] [] (cl_X7_lineOf T o_p0 a_p0 s_p0_finding s_p0_asked s_p0_newPoints s_p0_newLines s_p0_faultAt s_p0_tries s_p0_things s_p0_goals s_p0_level s_p0_letters)) (hK_24 : ∀ (x_4' : Int64) (x_7' : Int32), K_24 x_4' x_7' → V E 0 0 24 [(0, .ref o_p0), (1, .int x_1), (2, .int x_2), (3, .int x_3), (4, .long x_4'), (6, .int x_6), (7, .int x_7')] [] (cl_X7_lineOf T o_p0 a_p0 s_p0_finding s_p0_asked s_p0_newPoints s_p0_newLines s_p0_faultAt s_p0_tries s_p0_things s_p0_goals s_p0_level s_p0_letters)) (hK_33 : ∀ (x_4' : Int64) (x_8' : Int32), K_33 x_4' x_8' → V E 0 0 33 [(0, .ref o_p0), (1, .int x_1), (2, .int x_2), (3, .int x_3), (4, .long x_4'), (6, .int x_6), (7, .int x_7), (8, .int x_8')] [] (cl_X7_lineOf T o_p0 a_p0 s_p0_finding s_p0_asked s_p0_newPoints s_p0_newLines s_p0_faultAt s_p0_tries s_p0_things s_p0_goals s_p0_level s_p0_letters)) : ∀ (n_ : Nat) (x_9 : Int32) (x_10 : Int32), w_X7_lineOf_45 x_1 x_2 x_3 x_4 x_6 x_7 x_8 s_p0_newPoints s_p0_letters K_12 K_24 K_33 Q n_ x_9 x_10 → V E 0 0 45 [(0, .ref o_p0), (1, .int x_1), (2, .int x_2), (3, .int x_3), (4, .long x_4), (6, .int x_6), (7, .int x_7), (8, .int x_8), (9, .int x_9), (10, .int x_10)] [] (cl_X7_lineOf T o_p0 a_p0 s_p0_finding s_p0_asked s_p0_newPoints s_p0_newLines s_p0_faultAt s_p0_tries s_p0_things s_p0_goals s_p0_level s_p0_letters) := by
  intro n_
  induction n_ with
  | zero => intro x_9 x_10 h; exact h.elim
  | succ n_ hK_45 =>
    intro x_9 x_10 h
    replace h : w_X7_lineOf_45s x_1 x_2 x_3 x_4 x_6 x_7 x_8 s_p0_newPoints s_p0_letters K_12 K_24 K_33 Q (w_X7_lineOf_45 x_1 x_2 x_3 x_4 x_6 x_7 x_8 s_p0_newPoints s_p0_letters K_12 K_24 K_33 Q n_) x_9 x_10 := h
    unfold w_X7_lineOf_45s at h
    refine v_iload X 9 dX7_lineOf_45 rfl ?_
    refine v_iconst X dX7_lineOf_47 (v := (4 : Int32)) (by decide) ?_
    refine v_icmp_ge X (tgt := 116) dX7_lineOf_48 (by decide) (fun c_48 => ?_) (fun c_48 => ?_)
    · replace h := h.1 c_48
      refine v_lload X 4 dX7_lineOf_116 rfl ?_
      refine v_iload X 8 dX7_lineOf_118 rfl ?_
      refine v_if_eq X (tgt := 130) dX7_lineOf_120 (by decide) (fun c_120 => ?_) (fun c_120 => ?_)
      · replace h := h.1 c_120
        refine v_lconst X dX7_lineOf_130 (v := (0 : Int64)) (by decide) ?_
        refine v_lv (lv' := [(0, .ref o_p0), (1, .int x_1), (2, .int x_2), (3, .int x_3), (6, .int x_6), (7, .int x_7), (8, .int x_8)]) [0, 1, 2, 3, 5, 6, 7] rfl ?_
        exact k_X7_lineOf_131 X r hK_12 hK_24 hK_33 h
      · replace h := h.2 c_120
        refine v_lconst X dX7_lineOf_123 (v := (1 : Int64)) (by decide) ?_
        refine v_iload X 5 dX7_lineOf_124 rfl ?_
        refine v_lshl X dX7_lineOf_126 ?_
        refine v_goto X (tgt := 131) dX7_lineOf_127 (by decide) ?_
        refine v_lv (lv' := [(0, .ref o_p0), (1, .int x_1), (2, .int x_2), (3, .int x_3), (6, .int x_6), (7, .int x_7), (8, .int x_8)]) [0, 1, 2, 3, 5, 6, 7] rfl ?_
        exact k_X7_lineOf_131 X r hK_12 hK_24 hK_33 h
    · replace h := h.2 c_48
      refine v_iload X 8 dX7_lineOf_51 rfl ?_
      refine v_if_eq X (tgt := 107) dX7_lineOf_53 (by decide) (fun c_53 => ?_) (fun c_53 => ?_)
      · replace h := h.1 c_53
        refine v_lv (lv' := [(0, .ref o_p0), (1, .int x_1), (2, .int x_2), (3, .int x_3), (4, .long x_4), (6, .int x_6), (7, .int x_7), (8, .int x_8), (10, .int x_10)]) [0, 1, 2, 3, 4, 5, 6, 7, 9] rfl ?_
        exact k_X7_lineOf_107 X r hK_12 hK_24 hK_33 hK_45 h
      · replace h := h.2 c_53
        refine v_iload X 6 dX7_lineOf_56 rfl ?_
        refine v_aload_n X 0 dX7_lineOf_58 rfl rfl ?_
        refine v_get X 0 11 (F := TX7) (N := 33) iX7_lineOf_X7 rfl rfl (by decide) (List.mem_of_getElem? (i := 2) rfl) rfl rfl dX7_lineOf_59 ?_
        refine v_iconst X dX7_lineOf_62 (v := (4 : Int32)) (by decide) ?_
        refine v_iload_n X 1 dX7_lineOf_63 rfl rfl ?_
        refine v_imul X dX7_lineOf_64 ?_
        refine v_iload X 9 dX7_lineOf_65 rfl ?_
        refine v_iadd X dX7_lineOf_67 ?_
        refine v_iald X 1 0 rfl rfl h.1 dX7_lineOf_68 ?_
        replace h := h.2
        refine v_imul X dX7_lineOf_69 ?_
        refine v_iload X 7 dX7_lineOf_70 rfl ?_
        refine v_aload_n X 0 dX7_lineOf_72 rfl rfl ?_
        refine v_get X 0 11 (F := TX7) (N := 33) iX7_lineOf_X7 rfl rfl (by decide) (List.mem_of_getElem? (i := 2) rfl) rfl rfl dX7_lineOf_73 ?_
        refine v_iconst X dX7_lineOf_76 (v := (4 : Int32)) (by decide) ?_
        refine v_iload_n X 2 dX7_lineOf_77 rfl rfl ?_
        refine v_imul X dX7_lineOf_78 ?_
        refine v_iload X 9 dX7_lineOf_79 rfl ?_
        refine v_iadd X dX7_lineOf_81 ?_
        refine v_iald X 1 0 rfl rfl h.1 dX7_lineOf_82 ?_
        replace h := h.2
        refine v_imul X dX7_lineOf_83 ?_
        refine v_iadd X dX7_lineOf_84 ?_
        refine v_aload_n X 0 dX7_lineOf_85 rfl rfl ?_
        refine v_get X 0 11 (F := TX7) (N := 33) iX7_lineOf_X7 rfl rfl (by decide) (List.mem_of_getElem? (i := 2) rfl) rfl rfl dX7_lineOf_86 ?_
        refine v_iconst X dX7_lineOf_89 (v := (4 : Int32)) (by decide) ?_
        refine v_iload X 5 dX7_lineOf_90 rfl ?_
        refine v_imul X dX7_lineOf_92 ?_
        refine v_iload X 9 dX7_lineOf_93 rfl ?_
        refine v_iadd X dX7_lineOf_95 ?_
        refine v_iald X 1 0 rfl rfl h.1 dX7_lineOf_96 ?_
        replace h := h.2
        refine v_isub X dX7_lineOf_97 ?_
        refine v_iload_n X 3 dX7_lineOf_98 rfl rfl ?_
        refine v_irem X dX7_lineOf_99 h.1 ?_
        replace h := h.2
        refine v_if_ne X (tgt := 107) dX7_lineOf_100 (by decide) (fun c_100 => ?_) (fun c_100 => ?_)
        · replace h := h.1 c_100
          refine v_lv (lv' := [(0, .ref o_p0), (1, .int x_1), (2, .int x_2), (3, .int x_3), (4, .long x_4), (6, .int x_6), (7, .int x_7), (8, .int x_8), (10, .int x_10)]) [0, 1, 2, 3, 4, 5, 6, 7, 9] rfl ?_
          exact k_X7_lineOf_107 X r hK_12 hK_24 hK_33 hK_45 h
        · replace h := h.2 c_100
          refine v_iconst X dX7_lineOf_103 (v := (1 : Int32)) (by decide) ?_
          refine v_goto X (tgt := 108) dX7_lineOf_104 (by decide) ?_
          refine v_lv (lv' := [(0, .ref o_p0), (1, .int x_1), (2, .int x_2), (3, .int x_3), (4, .long x_4), (6, .int x_6), (7, .int x_7), (8, .int x_8), (10, .int x_10)]) [0, 1, 2, 3, 4, 5, 6, 7, 9] rfl ?_
          exact k_X7_lineOf_108 X r hK_12 hK_24 hK_33 hK_45 h
set_option maxHeartbeats 4000000 in
set_option maxRecDepth 100000 in
theorem k_X7_lineOf_33 {E : vE} {T : Nat → ClassId} {o_p0 : Nat} {a_p0 : Nat → Nat} {s_p0_finding : Int32} {s_p0_asked : Int64} {s_p0_newPoints : Int32} {s_p0_newLines : Int32} {s_p0_faultAt : Int64} {s_p0_tries : Int32} {s_p0_things : Int32} {s_p0_goals : Int32} {s_p0_level : Int32} {s_p0_letters : Nat → Int32} {x_1 : Int32} {x_2 : Int32} {x_3 : Int32} {x_6 : Int32} {x_7 : Int32} {K_12 : (Int64) → (Int32) → Prop} {K_24 : (Int64) → (Int32) → Prop} {Q : Int64 → Prop} (X : vX E cX7_lineOf 11 RX7 wsX7_lineOf (vT T) (vr 0 0)) (r : r_X7_lineOf E T o_p0 a_p0 s_p0_finding s_p0_asked s_p0_newPoints s_p0_newLines s_p0_faultAt s_p0_tries s_p0_things s_p0_goals s_p0_level s_p0_letters Q) (hK_12 : ∀ (x_4' : Int64) (x_6' : Int32), K_12 x_4' x_6' → V E 0 0 12 [(0, .ref o_p0), (1, .int x_1), (2, .int x_2), (3, .int x_3), (4, .long x_4'), (6, .int x_6')] [] (cl_X7_lineOf T o_p0 a_p0 s_p0_finding s_p0_asked s_p0_newPoints s_p0_newLines s_p0_faultAt s_p0_tries s_p0_things s_p0_goals s_p0_level s_p0_letters)) (hK_24 : ∀ (x_4' : Int64) (x_7' : Int32), K_24 x_4' x_7' → V E 0 0 24 [(0, .ref o_p0), (1, .int x_1), (2, .int x_2), (3, .int x_3), (4, .long x_4'), (6, .int x_6), (7, .int x_7')] [] (cl_X7_lineOf T o_p0 a_p0 s_p0_finding s_p0_asked s_p0_newPoints s_p0_newLines s_p0_faultAt s_p0_tries s_p0_things s_p0_goals s_p0_level s_p0_letters)) : ∀ (n_ : Nat) (x_4 : Int64) (x_8 : Int32), w_X7_lineOf_33 x_1 x_2 x_3 x_6 x_7 s_p0_newPoints s_p0_letters K_12 K_24 Q n_ x_4 x_8 → V E 0 0 33 [(0, .ref o_p0), (1, .int x_1), (2, .int x_2), (3, .int x_3), (4, .long x_4), (6, .int x_6), (7, .int x_7), (8, .int x_8)] [] (cl_X7_lineOf T o_p0 a_p0 s_p0_finding s_p0_asked s_p0_newPoints s_p0_newLines s_p0_faultAt s_p0_tries s_p0_things s_p0_goals s_p0_level s_p0_letters) := by
  intro n_
  induction n_ with
  | zero => intro x_4 x_8 h; exact h.elim
  | succ n_ hK_33 =>
    intro x_4 x_8 h
    replace h : w_X7_lineOf_33s x_1 x_2 x_3 x_6 x_7 s_p0_newPoints s_p0_letters K_12 K_24 Q (w_X7_lineOf_33 x_1 x_2 x_3 x_6 x_7 s_p0_newPoints s_p0_letters K_12 K_24 Q n_) x_4 x_8 := h
    unfold w_X7_lineOf_33s at h
    refine v_iload X 7 dX7_lineOf_33 rfl ?_
    refine v_iload_n X 3 dX7_lineOf_35 rfl rfl ?_
    refine v_icmp_ge X (tgt := 140) dX7_lineOf_36 (by decide) (fun c_36 => ?_) (fun c_36 => ?_)
    · replace h := h.1 c_36
      refine v_iinc X (v := (x_7 + (1 : Int32))) (lv' := [(7, .int (x_7 + (1 : Int32))), (0, .ref o_p0), (1, .int x_1), (2, .int x_2), (3, .int x_3), (4, .long x_4), (6, .int x_6), (8, .int x_8)]) 6 dX7_lineOf_140 rfl rfl (by decide) rfl ?_
      refine v_goto X (tgt := 24) dX7_lineOf_143 (by decide) ?_
      refine v_lv (lv' := [(0, .ref o_p0), (1, .int x_1), (2, .int x_2), (3, .int x_3), (4, .long x_4), (6, .int x_6), (7, .int (x_7 + (1 : Int32)))]) [1, 2, 3, 4, 5, 6, 0] rfl ?_
      exact hK_24 _ _ h
    · replace h := h.2 c_36
      refine v_iconst X dX7_lineOf_39 (v := (1 : Int32)) (by decide) ?_
      refine v_istore X (lv' := [(9, .int (1 : Int32)), (0, .ref o_p0), (1, .int x_1), (2, .int x_2), (3, .int x_3), (4, .long x_4), (6, .int x_6), (7, .int x_7), (8, .int x_8)]) dX7_lineOf_40 (by decide) rfl ?_
      refine v_iconst X dX7_lineOf_42 (v := (0 : Int32)) (by decide) ?_
      refine v_istore X (lv' := [(10, .int (0 : Int32)), (9, .int (1 : Int32)), (0, .ref o_p0), (1, .int x_1), (2, .int x_2), (3, .int x_3), (4, .long x_4), (6, .int x_6), (7, .int x_7), (8, .int x_8)]) dX7_lineOf_43 (by decide) rfl ?_
      refine v_lv (lv' := [(0, .ref o_p0), (1, .int x_1), (2, .int x_2), (3, .int x_3), (4, .long x_4), (6, .int x_6), (7, .int x_7), (8, .int x_8), (9, .int (1 : Int32)), (10, .int (0 : Int32))]) [2, 3, 4, 5, 6, 7, 8, 9, 1, 0] rfl ?_
      obtain ⟨n_, h⟩ := h
      exact k_X7_lineOf_45 X r hK_12 hK_24 hK_33 n_ _ _ h
set_option maxHeartbeats 4000000 in
set_option maxRecDepth 100000 in
theorem k_X7_lineOf_24 {E : vE} {T : Nat → ClassId} {o_p0 : Nat} {a_p0 : Nat → Nat} {s_p0_finding : Int32} {s_p0_asked : Int64} {s_p0_newPoints : Int32} {s_p0_newLines : Int32} {s_p0_faultAt : Int64} {s_p0_tries : Int32} {s_p0_things : Int32} {s_p0_goals : Int32} {s_p0_level : Int32} {s_p0_letters : Nat → Int32} {x_1 : Int32} {x_2 : Int32} {x_3 : Int32} {x_6 : Int32} {K_12 : (Int64) → (Int32) → Prop} {Q : Int64 → Prop} (X : vX E cX7_lineOf 11 RX7 wsX7_lineOf (vT T) (vr 0 0)) (r : r_X7_lineOf E T o_p0 a_p0 s_p0_finding s_p0_asked s_p0_newPoints s_p0_newLines s_p0_faultAt s_p0_tries s_p0_things s_p0_goals s_p0_level s_p0_letters Q) (hK_12 : ∀ (x_4' : Int64) (x_6' : Int32), K_12 x_4' x_6' → V E 0 0 12 [(0, .ref o_p0), (1, .int x_1), (2, .int x_2), (3, .int x_3), (4, .long x_4'), (6, .int x_6')] [] (cl_X7_lineOf T o_p0 a_p0 s_p0_finding s_p0_asked s_p0_newPoints s_p0_newLines s_p0_faultAt s_p0_tries s_p0_things s_p0_goals s_p0_level s_p0_letters)) : ∀ (n_ : Nat) (x_4 : Int64) (x_7 : Int32), w_X7_lineOf_24 x_1 x_2 x_3 x_6 s_p0_newPoints s_p0_letters K_12 Q n_ x_4 x_7 → V E 0 0 24 [(0, .ref o_p0), (1, .int x_1), (2, .int x_2), (3, .int x_3), (4, .long x_4), (6, .int x_6), (7, .int x_7)] [] (cl_X7_lineOf T o_p0 a_p0 s_p0_finding s_p0_asked s_p0_newPoints s_p0_newLines s_p0_faultAt s_p0_tries s_p0_things s_p0_goals s_p0_level s_p0_letters) := by
  intro n_
  induction n_ with
  | zero => intro x_4 x_7 h; exact h.elim
  | succ n_ hK_24 =>
    intro x_4 x_7 h
    replace h : w_X7_lineOf_24s x_1 x_2 x_3 x_6 s_p0_newPoints s_p0_letters K_12 Q (w_X7_lineOf_24 x_1 x_2 x_3 x_6 s_p0_newPoints s_p0_letters K_12 Q n_) x_4 x_7 := h
    unfold w_X7_lineOf_24s at h
    refine v_iload X 6 dX7_lineOf_24 rfl ?_
    refine v_iload_n X 3 dX7_lineOf_26 rfl rfl ?_
    refine v_icmp_ge X (tgt := 146) dX7_lineOf_27 (by decide) (fun c_27 => ?_) (fun c_27 => ?_)
    · replace h := h.1 c_27
      refine v_iinc X (v := (x_6 + (1 : Int32))) (lv' := [(6, .int (x_6 + (1 : Int32))), (0, .ref o_p0), (1, .int x_1), (2, .int x_2), (3, .int x_3), (4, .long x_4), (7, .int x_7)]) 5 dX7_lineOf_146 rfl rfl (by decide) rfl ?_
      refine v_goto X (tgt := 12) dX7_lineOf_149 (by decide) ?_
      refine v_lv (lv' := [(0, .ref o_p0), (1, .int x_1), (2, .int x_2), (3, .int x_3), (4, .long x_4), (6, .int (x_6 + (1 : Int32)))]) [1, 2, 3, 4, 5, 0] rfl ?_
      exact hK_12 _ _ h
    · replace h := h.2 c_27
      refine v_iconst X dX7_lineOf_30 (v := (1 : Int32)) (by decide) ?_
      refine v_istore X (lv' := [(8, .int (1 : Int32)), (0, .ref o_p0), (1, .int x_1), (2, .int x_2), (3, .int x_3), (4, .long x_4), (6, .int x_6), (7, .int x_7)]) dX7_lineOf_31 (by decide) rfl ?_
      refine v_lv (lv' := [(0, .ref o_p0), (1, .int x_1), (2, .int x_2), (3, .int x_3), (4, .long x_4), (6, .int x_6), (7, .int x_7), (8, .int (1 : Int32))]) [1, 2, 3, 4, 5, 6, 7, 0] rfl ?_
      obtain ⟨n_, h⟩ := h
      exact k_X7_lineOf_33 X r hK_12 hK_24 n_ _ _ h
set_option maxHeartbeats 4000000 in
set_option maxRecDepth 100000 in
theorem k_X7_lineOf_12 {E : vE} {T : Nat → ClassId} {o_p0 : Nat} {a_p0 : Nat → Nat} {s_p0_finding : Int32} {s_p0_asked : Int64} {s_p0_newPoints : Int32} {s_p0_newLines : Int32} {s_p0_faultAt : Int64} {s_p0_tries : Int32} {s_p0_things : Int32} {s_p0_goals : Int32} {s_p0_level : Int32} {s_p0_letters : Nat → Int32} {x_1 : Int32} {x_2 : Int32} {x_3 : Int32} {Q : Int64 → Prop} (X : vX E cX7_lineOf 11 RX7 wsX7_lineOf (vT T) (vr 0 0)) (r : r_X7_lineOf E T o_p0 a_p0 s_p0_finding s_p0_asked s_p0_newPoints s_p0_newLines s_p0_faultAt s_p0_tries s_p0_things s_p0_goals s_p0_level s_p0_letters Q) : ∀ (n_ : Nat) (x_4 : Int64) (x_6 : Int32), w_X7_lineOf_12 x_1 x_2 x_3 s_p0_newPoints s_p0_letters Q n_ x_4 x_6 → V E 0 0 12 [(0, .ref o_p0), (1, .int x_1), (2, .int x_2), (3, .int x_3), (4, .long x_4), (6, .int x_6)] [] (cl_X7_lineOf T o_p0 a_p0 s_p0_finding s_p0_asked s_p0_newPoints s_p0_newLines s_p0_faultAt s_p0_tries s_p0_things s_p0_goals s_p0_level s_p0_letters) := by
  intro n_
  induction n_ with
  | zero => intro x_4 x_6 h; exact h.elim
  | succ n_ hK_12 =>
    intro x_4 x_6 h
    replace h : w_X7_lineOf_12s x_1 x_2 x_3 s_p0_newPoints s_p0_letters Q (w_X7_lineOf_12 x_1 x_2 x_3 s_p0_newPoints s_p0_letters Q n_) x_4 x_6 := h
    unfold w_X7_lineOf_12s at h
    refine v_iload X 5 dX7_lineOf_12 rfl ?_
    refine v_aload_n X 0 dX7_lineOf_14 rfl rfl ?_
    refine v_get X 0 8 (F := TX7) (N := 33) iX7_lineOf_X7 rfl rfl (by decide) (List.mem_of_getElem? (i := 1) rfl) rfl rfl dX7_lineOf_15 ?_
    refine v_icmp_ge X (tgt := 152) dX7_lineOf_18 (by decide) (fun c_18 => ?_) (fun c_18 => ?_)
    · replace h := h.1 c_18
      refine v_lload X 4 dX7_lineOf_152 rfl ?_
      exact r _ _ _ () _ dX7_lineOf_154 h rfl
    · replace h := h.2 c_18
      refine v_iconst X dX7_lineOf_21 (v := (1 : Int32)) (by decide) ?_
      refine v_istore X (lv' := [(7, .int (1 : Int32)), (0, .ref o_p0), (1, .int x_1), (2, .int x_2), (3, .int x_3), (4, .long x_4), (6, .int x_6)]) dX7_lineOf_22 (by decide) rfl ?_
      refine v_lv (lv' := [(0, .ref o_p0), (1, .int x_1), (2, .int x_2), (3, .int x_3), (4, .long x_4), (6, .int x_6), (7, .int (1 : Int32))]) [1, 2, 3, 4, 5, 6, 0] rfl ?_
      obtain ⟨n_, h⟩ := h
      exact k_X7_lineOf_24 X r hK_12 n_ _ _ h
set_option maxHeartbeats 4000000 in
set_option maxRecDepth 100000 in
theorem c_X7_lineOf {l : Launch} {D : va_G} {T : Nat → ClassId} {o_p0 : Nat} {a_p0 : Nat → Nat} {s_p0_finding : Int32} {s_p0_asked : Int64} {s_p0_newPoints : Int32} {s_p0_newLines : Int32} {s_p0_faultAt : Int64} {s_p0_tries : Int32} {s_p0_things : Int32} {s_p0_goals : Int32} {s_p0_level : Int32} {s_p0_letters : Nat → Int32} {x_1 : Int32} {x_2 : Int32} {x_3 : Int32} {Q : Int64 → Prop} (h : w_X7_lineOf x_1 x_2 x_3 s_p0_newPoints s_p0_letters Q) : vCl l D (vT T) yX7_lineOf wsX7_lineOf (vr 0 0) [.ref o_p0, .int x_1, .int x_2, .int x_3] (cl_X7_lineOf T o_p0 a_p0 s_p0_finding s_p0_asked s_p0_newPoints s_p0_newLines s_p0_faultAt s_p0_tries s_p0_things s_p0_goals s_p0_level s_p0_letters) (fun v (u : Unit) => Q v) (fun (u : Unit) => (cl_X7_lineOf T o_p0 a_p0 s_p0_finding s_p0_asked s_p0_newPoints s_p0_newLines s_p0_faultAt s_p0_tries s_p0_things s_p0_goals s_p0_level s_p0_letters)) := by
  refine vC_l (cc := cX7_lineOf) (nL := 11) (by decide +kernel) rfl ⟨rfl, rfl⟩ (Nat.le_of_ble_eq_true rfl) rfl ?_
  intro E el eD X r
  unfold w_X7_lineOf at h
  refine v_lconst X dX7_lineOf_0 (v := (1 : Int64)) (by decide) ?_
  refine v_iload_n X 1 dX7_lineOf_1 rfl rfl ?_
  refine v_lshl X dX7_lineOf_2 ?_
  refine v_lconst X dX7_lineOf_3 (v := (1 : Int64)) (by decide) ?_
  refine v_iload_n X 2 dX7_lineOf_4 rfl rfl ?_
  refine v_lshl X dX7_lineOf_5 ?_
  refine v_lor X dX7_lineOf_6 ?_
  refine v_lstore X (lv' := [(4, .long ((vshl (1 : Int64) x_1) ||| (vshl (1 : Int64) x_2))), (0, .ref o_p0), (1, .int x_1), (2, .int x_2), (3, .int x_3)]) dX7_lineOf_7 (by decide) rfl ?_
  refine v_iconst X dX7_lineOf_9 (v := (0 : Int32)) (by decide) ?_
  refine v_istore X (lv' := [(6, .int (0 : Int32)), (4, .long ((vshl (1 : Int64) x_1) ||| (vshl (1 : Int64) x_2))), (0, .ref o_p0), (1, .int x_1), (2, .int x_2), (3, .int x_3)]) dX7_lineOf_10 (by decide) rfl ?_
  refine v_lv (lv' := [(0, .ref o_p0), (1, .int x_1), (2, .int x_2), (3, .int x_3), (4, .long ((vshl (1 : Int64) x_1) ||| (vshl (1 : Int64) x_2))), (6, .int (0 : Int32))]) [2, 3, 4, 5, 1, 0] rfl ?_
  obtain ⟨n_, h⟩ := h
  exact k_X7_lineOf_12 X r n_ _ _ h
-- X7_form
abbrev cl_X7_form (T : Nat → ClassId) (o_p0 : Nat) (a_p0 : Nat → Nat) (s_p0_finding : Int32) (s_p0_asked : Int64) (s_p0_newPoints : Int32) (s_p0_newLines : Int32) (s_p0_faultAt : Int64) (s_p0_tries : Int32) (s_p0_things : Int32) (s_p0_goals : Int32) (s_p0_level : Int32) (s_p0_kinds : Nat → Int32) (s_p0_letters : Nat → Int32) (s_p0_lineCount : Nat → Int32) (s_p0_lines : Nat → Int64) (s_p0_marks : Nat → Int32) (s_p0_newRow : Nat → Int64) (s_p0_points : Nat → Int32) : va_W := [vO o_p0 4 [.int s_p0_finding, .ref (a_p0 1), .long s_p0_asked, .ref (a_p0 3), .ref (a_p0 4), .ref (a_p0 5), .ref (a_p0 6), .ref (a_p0 7), .int s_p0_newPoints, .int s_p0_newLines, .ref (a_p0 10), .ref (a_p0 11), .long s_p0_faultAt, .int s_p0_tries, .int s_p0_things, .int s_p0_goals, .ref (a_p0 16), .ref (a_p0 17), .ref (a_p0 18), .ref (a_p0 19), .ref (a_p0 20), .ref (a_p0 21), .int s_p0_level, .ref (a_p0 23), .ref (a_p0 24), .ref (a_p0 25), .ref (a_p0 26), .ref (a_p0 27), .ref (a_p0 28), .ref (a_p0 29), .ref (a_p0 30), .ref (a_p0 31), .ref (a_p0 32)], vI T (a_p0 5) 6 s_p0_kinds, vI T (a_p0 11) 160 s_p0_letters, vI T (a_p0 4) 6 s_p0_lineCount, vJ T (a_p0 7) 270 s_p0_lines, vI T (a_p0 6) 6 s_p0_marks, vJ T (a_p0 10) 120 s_p0_newRow, vI T (a_p0 3) 6 s_p0_points]
abbrev r_X7_form (E : vE) (T : Nat → ClassId) (o_p0 : Nat) (a_p0 : Nat → Nat) (s_p0_finding : Int32) (s_p0_asked : Int64) (s_p0_faultAt : Int64) (s_p0_tries : Int32) (s_p0_things : Int32) (s_p0_goals : Int32) (s_p0_level : Int32) (Q : Int32 → (Int32) → (Int32) → (Nat → Int32) → (Nat → Int32) → (Nat → Int32) → (Nat → Int64) → (Nat → Int32) → (Nat → Int64) → (Nat → Int32) → Prop) : Prop := vRi E cX7_form (fun v (u : (Int32) × (Int32) × (Nat → Int32) × (Nat → Int32) × (Nat → Int32) × (Nat → Int64) × (Nat → Int32) × (Nat → Int64) × (Nat → Int32)) => Q v u.1 u.2.1 u.2.2.1 u.2.2.2.1 u.2.2.2.2.1 u.2.2.2.2.2.1 u.2.2.2.2.2.2.1 u.2.2.2.2.2.2.2.1 u.2.2.2.2.2.2.2.2) (fun (u : (Int32) × (Int32) × (Nat → Int32) × (Nat → Int32) × (Nat → Int32) × (Nat → Int64) × (Nat → Int32) × (Nat → Int64) × (Nat → Int32)) => (cl_X7_form T o_p0 a_p0 s_p0_finding s_p0_asked u.1 u.2.1 s_p0_faultAt s_p0_tries s_p0_things s_p0_goals s_p0_level u.2.2.1 u.2.2.2.1 u.2.2.2.2.1 u.2.2.2.2.2.1 u.2.2.2.2.2.2.1 u.2.2.2.2.2.2.2.1 u.2.2.2.2.2.2.2.2))
def w_X7_form_280 (x_1 : Int32) (x_2 : Int32) (x_3 : Int32) (x_4 : Int32) (s_p0_newPoints : Int32) (s_p0_newLines : Int32) (s_p0_kinds : Nat → Int32) (s_p0_letters : Nat → Int32) (s_p0_lineCount : Nat → Int32) (s_p0_lines : Nat → Int64) (s_p0_marks : Nat → Int32) (s_p0_newRow : Nat → Int64) (s_p0_points : Nat → Int32) (K_184 : (Int32) → (Int32) → (Nat → Int64) → Prop) (K_197 : (Int32) → (Int32) → (Nat → Int64) → Prop) (Q : Int32 → (Int32) → (Int32) → (Nat → Int32) → (Nat → Int32) → (Nat → Int32) → (Nat → Int64) → (Nat → Int32) → (Nat → Int64) → (Nat → Int32) → Prop) : Prop := (K_197 (x_4 + (1 : Int32)) s_p0_newLines s_p0_newRow)
def w_X7_form_267 (x_1 : Int32) (x_2 : Int32) (x_3 : Int32) (x_4 : Int32) (x_5 : Int64) (t_0 : Int32) (s_p0_newPoints : Int32) (s_p0_newLines : Int32) (s_p0_kinds : Nat → Int32) (s_p0_letters : Nat → Int32) (s_p0_lineCount : Nat → Int32) (s_p0_lines : Nat → Int64) (s_p0_marks : Nat → Int32) (s_p0_newRow : Nat → Int64) (s_p0_points : Nat → Int32) (K_184 : (Int32) → (Int32) → (Nat → Int64) → Prop) (K_197 : (Int32) → (Int32) → (Nat → Int64) → Prop) (Q : Int32 → (Int32) → (Int32) → (Nat → Int32) → (Nat → Int32) → (Nat → Int32) → (Nat → Int64) → (Nat → Int32) → (Nat → Int64) → (Nat → Int32) → Prop) : Prop := ((t_0 = 0 → (w_X7_form_280 x_1 x_2 x_3 x_4 s_p0_newPoints s_p0_newLines s_p0_kinds s_p0_letters s_p0_lineCount s_p0_lines s_p0_marks s_p0_newRow s_p0_points K_184 K_197 Q)) ∧ (¬ t_0 = 0 → (w_X7_add x_5 s_p0_newLines s_p0_newRow (fun (u_277_0 : Int32) (u_277_1 : Nat → Int64) => (w_X7_form_280 x_1 x_2 x_3 x_4 s_p0_newPoints u_277_0 s_p0_kinds s_p0_letters s_p0_lineCount s_p0_lines s_p0_marks u_277_1 s_p0_points K_184 K_197 Q)))))
def w_X7_form_266 (x_1 : Int32) (x_2 : Int32) (x_3 : Int32) (x_4 : Int32) (x_5 : Int64) (s_p0_newPoints : Int32) (s_p0_newLines : Int32) (s_p0_kinds : Nat → Int32) (s_p0_letters : Nat → Int32) (s_p0_lineCount : Nat → Int32) (s_p0_lines : Nat → Int64) (s_p0_marks : Nat → Int32) (s_p0_newRow : Nat → Int64) (s_p0_points : Nat → Int32) (K_184 : (Int32) → (Int32) → (Nat → Int64) → Prop) (K_197 : (Int32) → (Int32) → (Nat → Int64) → Prop) (Q : Int32 → (Int32) → (Int32) → (Nat → Int32) → (Nat → Int32) → (Nat → Int32) → (Nat → Int64) → (Nat → Int32) → (Nat → Int64) → (Nat → Int32) → Prop) : Prop := (w_X7_form_267 x_1 x_2 x_3 x_4 x_5 (0 : Int32) s_p0_newPoints s_p0_newLines s_p0_kinds s_p0_letters s_p0_lineCount s_p0_lines s_p0_marks s_p0_newRow s_p0_points K_184 K_197 Q)
def w_X7_form_197s (x_1 : Int32) (x_2 : Int32) (x_3 : Int32) (s_p0_newPoints : Int32) (s_p0_kinds : Nat → Int32) (s_p0_letters : Nat → Int32) (s_p0_lineCount : Nat → Int32) (s_p0_lines : Nat → Int64) (s_p0_marks : Nat → Int32) (s_p0_points : Nat → Int32) (K_184 : (Int32) → (Int32) → (Nat → Int64) → Prop) (Q : Int32 → (Int32) → (Int32) → (Nat → Int32) → (Nat → Int32) → (Nat → Int32) → (Nat → Int64) → (Nat → Int32) → (Nat → Int64) → (Nat → Int32) → Prop) (K_197 : (Int32) → (Int32) → (Nat → Int64) → Prop) (x_4 : Int32) (s_p0_newLines : Int32) (s_p0_newRow : Nat → Int64) : Prop := ((s_p0_newPoints ≤ x_4 → (K_184 (x_3 + (1 : Int32)) s_p0_newLines s_p0_newRow)) ∧ (¬ s_p0_newPoints ≤ x_4 → (w_X7_isPerp x_3 x_4 x_2 s_p0_letters (fun (r_211 : Int32) => ((r_211 = 0 → (w_X7_form_280 x_1 x_2 x_3 x_4 s_p0_newPoints s_p0_newLines s_p0_kinds s_p0_letters s_p0_lineCount s_p0_lines s_p0_marks s_p0_newRow s_p0_points K_184 K_197 Q)) ∧ (¬ r_211 = 0 → (w_X7_lineOf x_3 x_4 x_2 s_p0_newPoints s_p0_letters (fun (r_222 : Int64) => ((¬ (lg_cmp (r_222 &&& ((vshl (1 : Int64) x_3) - (1 : Int64))) (0 : Int64)) = 0 → (w_X7_form_266 x_1 x_2 x_3 x_4 r_222 s_p0_newPoints s_p0_newLines s_p0_kinds s_p0_letters s_p0_lineCount s_p0_lines s_p0_marks s_p0_newRow s_p0_points K_184 K_197 Q)) ∧ ((lg_cmp (r_222 &&& ((vshl (1 : Int64) x_3) - (1 : Int64))) (0 : Int64)) = 0 → ((¬ (lg_cmp ((r_222 &&& ((vshl (1 : Int64) x_4) - (1 : Int64))) &&& ((vshl (1 : Int64) x_3) ^^^ (-1 : Int64))) (0 : Int64)) = 0 → (w_X7_form_266 x_1 x_2 x_3 x_4 r_222 s_p0_newPoints s_p0_newLines s_p0_kinds s_p0_letters s_p0_lineCount s_p0_lines s_p0_marks s_p0_newRow s_p0_points K_184 K_197 Q)) ∧ ((lg_cmp ((r_222 &&& ((vshl (1 : Int64) x_4) - (1 : Int64))) &&& ((vshl (1 : Int64) x_3) ^^^ (-1 : Int64))) (0 : Int64)) = 0 → (w_X7_form_267 x_1 x_2 x_3 x_4 r_222 (1 : Int32) s_p0_newPoints s_p0_newLines s_p0_kinds s_p0_letters s_p0_lineCount s_p0_lines s_p0_marks s_p0_newRow s_p0_points K_184 K_197 Q)))))))))))))
def w_X7_form_197 (x_1 : Int32) (x_2 : Int32) (x_3 : Int32) (s_p0_newPoints : Int32) (s_p0_kinds : Nat → Int32) (s_p0_letters : Nat → Int32) (s_p0_lineCount : Nat → Int32) (s_p0_lines : Nat → Int64) (s_p0_marks : Nat → Int32) (s_p0_points : Nat → Int32) (K_184 : (Int32) → (Int32) → (Nat → Int64) → Prop) (Q : Int32 → (Int32) → (Int32) → (Nat → Int32) → (Nat → Int32) → (Nat → Int32) → (Nat → Int64) → (Nat → Int32) → (Nat → Int64) → (Nat → Int32) → Prop) : Nat → (Int32) → (Int32) → (Nat → Int64) → Prop
  | 0 => fun _ _ _ => False
  | n_ + 1 => w_X7_form_197s x_1 x_2 x_3 s_p0_newPoints s_p0_kinds s_p0_letters s_p0_lineCount s_p0_lines s_p0_marks s_p0_points K_184 Q (w_X7_form_197 x_1 x_2 x_3 s_p0_newPoints s_p0_kinds s_p0_letters s_p0_lineCount s_p0_lines s_p0_marks s_p0_points K_184 Q n_)
def w_X7_form_184s (x_1 : Int32) (x_2 : Int32) (s_p0_newPoints : Int32) (s_p0_kinds : Nat → Int32) (s_p0_letters : Nat → Int32) (s_p0_lineCount : Nat → Int32) (s_p0_lines : Nat → Int64) (s_p0_marks : Nat → Int32) (s_p0_points : Nat → Int32) (Q : Int32 → (Int32) → (Int32) → (Nat → Int32) → (Nat → Int32) → (Nat → Int32) → (Nat → Int64) → (Nat → Int32) → (Nat → Int64) → (Nat → Int32) → Prop) (K_184 : (Int32) → (Int32) → (Nat → Int64) → Prop) (x_3 : Int32) (s_p0_newLines : Int32) (s_p0_newRow : Nat → Int64) : Prop := ((s_p0_newPoints ≤ x_3 → (w_X7_keep x_1 (2 : Int32) x_2 s_p0_newPoints s_p0_newLines s_p0_kinds s_p0_lineCount s_p0_lines s_p0_marks s_p0_newRow s_p0_points (fun (r_296 : Int32) (u_296_0 : Nat → Int32) (u_296_1 : Nat → Int32) (u_296_2 : Nat → Int64) (u_296_3 : Nat → Int32) (u_296_4 : Nat → Int32) => (Q r_296 s_p0_newPoints s_p0_newLines u_296_0 s_p0_letters u_296_1 u_296_2 u_296_3 s_p0_newRow u_296_4)))) ∧ (¬ s_p0_newPoints ≤ x_3 → (∃ n_, w_X7_form_197 x_1 x_2 x_3 s_p0_newPoints s_p0_kinds s_p0_letters s_p0_lineCount s_p0_lines s_p0_marks s_p0_points K_184 Q n_ (x_3 + (1 : Int32)) s_p0_newLines s_p0_newRow)))
def w_X7_form_184 (x_1 : Int32) (x_2 : Int32) (s_p0_newPoints : Int32) (s_p0_kinds : Nat → Int32) (s_p0_letters : Nat → Int32) (s_p0_lineCount : Nat → Int32) (s_p0_lines : Nat → Int64) (s_p0_marks : Nat → Int32) (s_p0_points : Nat → Int32) (Q : Int32 → (Int32) → (Int32) → (Nat → Int32) → (Nat → Int32) → (Nat → Int32) → (Nat → Int64) → (Nat → Int32) → (Nat → Int64) → (Nat → Int32) → Prop) : Nat → (Int32) → (Int32) → (Nat → Int64) → Prop
  | 0 => fun _ _ _ => False
  | n_ + 1 => w_X7_form_184s x_1 x_2 s_p0_newPoints s_p0_kinds s_p0_letters s_p0_lineCount s_p0_lines s_p0_marks s_p0_points Q (w_X7_form_184 x_1 x_2 s_p0_newPoints s_p0_kinds s_p0_letters s_p0_lineCount s_p0_lines s_p0_marks s_p0_points Q n_)
def w_X7_form_176 (x_1 : Int32) (x_2 : Int32) (x_3 : Int32) (s_p0_newPoints : Int32) (s_p0_newLines : Int32) (s_p0_kinds : Nat → Int32) (s_p0_letters : Nat → Int32) (s_p0_lineCount : Nat → Int32) (s_p0_lines : Nat → Int64) (s_p0_marks : Nat → Int32) (s_p0_newRow : Nat → Int64) (s_p0_points : Nat → Int32) (K_30 : (Int32) → (Int32) → (Nat → Int32) → Prop) (Q : Int32 → (Int32) → (Int32) → (Nat → Int32) → (Nat → Int32) → (Nat → Int32) → (Nat → Int64) → (Nat → Int32) → (Nat → Int64) → (Nat → Int32) → Prop) : Prop := (K_30 (x_3 + (1 : Int32)) s_p0_newPoints s_p0_letters)
def w_X7_form_99 (x_1 : Int32) (x_2 : Int32) (x_3 : Int32) (x_4 : Int32) (x_5 : Int32) (x_6 : Int32) (t_0 : Int32) (s_p0_newPoints : Int32) (s_p0_newLines : Int32) (s_p0_kinds : Nat → Int32) (s_p0_letters : Nat → Int32) (s_p0_lineCount : Nat → Int32) (s_p0_lines : Nat → Int64) (s_p0_marks : Nat → Int32) (s_p0_newRow : Nat → Int64) (s_p0_points : Nat → Int32) (K_30 : (Int32) → (Int32) → (Nat → Int32) → Prop) (Q : Int32 → (Int32) → (Int32) → (Nat → Int32) → (Nat → Int32) → (Nat → Int32) → (Nat → Int64) → (Nat → Int32) → (Nat → Int64) → (Nat → Int32) → Prop) : Prop := ((¬ t_0 = (1 : Int32) → (w_X7_form_176 x_1 x_2 x_3 s_p0_newPoints s_p0_newLines s_p0_kinds s_p0_letters s_p0_lineCount s_p0_lines s_p0_marks s_p0_newRow s_p0_points K_30 Q)) ∧ (t_0 = (1 : Int32) → (vp_in ((4 : Int32) * s_p0_newPoints) 160 ∧ (vp_in (((4 : Int32) * s_p0_newPoints) + (1 : Int32)) 160 ∧ (vp_in (((4 : Int32) * s_p0_newPoints) + (2 : Int32)) 160 ∧ (¬ x_2 = 0 ∧ (vp_in (((4 : Int32) * s_p0_newPoints) + (3 : Int32)) 160 ∧ (w_X7_form_176 x_1 x_2 x_3 (s_p0_newPoints + (1 : Int32)) s_p0_newLines s_p0_kinds (upd (upd (upd (upd s_p0_letters (((4 : Int32) * s_p0_newPoints)).toNatClampNeg x_4) ((((4 : Int32) * s_p0_newPoints) + (1 : Int32))).toNatClampNeg x_5) ((((4 : Int32) * s_p0_newPoints) + (2 : Int32))).toNatClampNeg x_6) ((((4 : Int32) * s_p0_newPoints) + (3 : Int32))).toNatClampNeg (vrem x_3 x_2)) s_p0_lineCount s_p0_lines s_p0_marks s_p0_newRow s_p0_points K_30 Q))))))))
def w_X7_form_30s (x_1 : Int32) (x_2 : Int32) (s_p0_newLines : Int32) (s_p0_kinds : Nat → Int32) (s_p0_lineCount : Nat → Int32) (s_p0_lines : Nat → Int64) (s_p0_marks : Nat → Int32) (s_p0_newRow : Nat → Int64) (s_p0_points : Nat → Int32) (Q : Int32 → (Int32) → (Int32) → (Nat → Int32) → (Nat → Int32) → (Nat → Int32) → (Nat → Int64) → (Nat → Int32) → (Nat → Int64) → (Nat → Int32) → Prop) (K_30 : (Int32) → (Int32) → (Nat → Int32) → Prop) (x_3 : Int32) (s_p0_newPoints : Int32) (s_p0_letters : Nat → Int32) : Prop := (((((x_2 * x_2) * x_2) * x_2) ≤ x_3 → (∃ n_, w_X7_form_184 x_1 x_2 s_p0_newPoints s_p0_kinds s_p0_letters s_p0_lineCount s_p0_lines s_p0_marks s_p0_points Q n_ (0 : Int32) s_p0_newLines s_p0_newRow)) ∧ (¬ (((x_2 * x_2) * x_2) * x_2) ≤ x_3 → (¬ ((x_2 * x_2) * x_2) = 0 ∧ (¬ (x_2 * x_2) = 0 ∧ (¬ x_2 = 0 ∧ (¬ x_2 = 0 ∧ (¬ x_2 = 0 ∧ (((x_3 / ((x_2 * x_2) * x_2)) ≤ 0 → (((vrem (x_3 / (x_2 * x_2)) x_2) ≤ 0 → (((vrem (x_3 / x_2) x_2) ≤ 0 → (¬ x_2 = 0 ∧ (w_X7_form_99 x_1 x_2 x_3 (x_3 / ((x_2 * x_2) * x_2)) (vrem (x_3 / (x_2 * x_2)) x_2) (vrem (x_3 / x_2) x_2) (vrem x_3 x_2) s_p0_newPoints s_p0_newLines s_p0_kinds s_p0_letters s_p0_lineCount s_p0_lines s_p0_marks s_p0_newRow s_p0_points K_30 Q))) ∧ (¬ (vrem (x_3 / x_2) x_2) ≤ 0 → (w_X7_form_99 x_1 x_2 x_3 (x_3 / ((x_2 * x_2) * x_2)) (vrem (x_3 / (x_2 * x_2)) x_2) (vrem (x_3 / x_2) x_2) (vrem (x_3 / x_2) x_2) s_p0_newPoints s_p0_newLines s_p0_kinds s_p0_letters s_p0_lineCount s_p0_lines s_p0_marks s_p0_newRow s_p0_points K_30 Q)))) ∧ (¬ (vrem (x_3 / (x_2 * x_2)) x_2) ≤ 0 → (w_X7_form_99 x_1 x_2 x_3 (x_3 / ((x_2 * x_2) * x_2)) (vrem (x_3 / (x_2 * x_2)) x_2) (vrem (x_3 / x_2) x_2) (vrem (x_3 / (x_2 * x_2)) x_2) s_p0_newPoints s_p0_newLines s_p0_kinds s_p0_letters s_p0_lineCount s_p0_lines s_p0_marks s_p0_newRow s_p0_points K_30 Q)))) ∧ (¬ (x_3 / ((x_2 * x_2) * x_2)) ≤ 0 → (w_X7_form_99 x_1 x_2 x_3 (x_3 / ((x_2 * x_2) * x_2)) (vrem (x_3 / (x_2 * x_2)) x_2) (vrem (x_3 / x_2) x_2) (x_3 / ((x_2 * x_2) * x_2)) s_p0_newPoints s_p0_newLines s_p0_kinds s_p0_letters s_p0_lineCount s_p0_lines s_p0_marks s_p0_newRow s_p0_points K_30 Q))))))))))
def w_X7_form_30 (x_1 : Int32) (x_2 : Int32) (s_p0_newLines : Int32) (s_p0_kinds : Nat → Int32) (s_p0_lineCount : Nat → Int32) (s_p0_lines : Nat → Int64) (s_p0_marks : Nat → Int32) (s_p0_newRow : Nat → Int64) (s_p0_points : Nat → Int32) (Q : Int32 → (Int32) → (Int32) → (Nat → Int32) → (Nat → Int32) → (Nat → Int32) → (Nat → Int64) → (Nat → Int32) → (Nat → Int64) → (Nat → Int32) → Prop) : Nat → (Int32) → (Int32) → (Nat → Int32) → Prop
  | 0 => fun _ _ _ => False
  | n_ + 1 => w_X7_form_30s x_1 x_2 s_p0_newLines s_p0_kinds s_p0_lineCount s_p0_lines s_p0_marks s_p0_newRow s_p0_points Q (w_X7_form_30 x_1 x_2 s_p0_newLines s_p0_kinds s_p0_lineCount s_p0_lines s_p0_marks s_p0_newRow s_p0_points Q n_)
def w_X7_form_16 (s_p0_newPoints : Int32) (s_p0_newLines : Int32) (s_p0_kinds : Nat → Int32) (s_p0_letters : Nat → Int32) (s_p0_lineCount : Nat → Int32) (s_p0_lines : Nat → Int64) (s_p0_marks : Nat → Int32) (s_p0_newRow : Nat → Int64) (s_p0_points : Nat → Int32) (Q : Int32 → (Int32) → (Int32) → (Nat → Int32) → (Nat → Int32) → (Nat → Int32) → (Nat → Int64) → (Nat → Int32) → (Nat → Int64) → (Nat → Int32) → Prop) : Prop := (Q (-1 : Int32) s_p0_newPoints s_p0_newLines s_p0_kinds s_p0_letters s_p0_lineCount s_p0_lines s_p0_marks s_p0_newRow s_p0_points)
def w_X7_form (x_1 : Int32) (x_2 : Int32) (s_p0_newPoints : Int32) (s_p0_newLines : Int32) (s_p0_kinds : Nat → Int32) (s_p0_letters : Nat → Int32) (s_p0_lineCount : Nat → Int32) (s_p0_lines : Nat → Int64) (s_p0_marks : Nat → Int32) (s_p0_newRow : Nat → Int64) (s_p0_points : Nat → Int32) (Q : Int32 → (Int32) → (Int32) → (Nat → Int32) → (Nat → Int32) → (Nat → Int32) → (Nat → Int64) → (Nat → Int32) → (Nat → Int64) → (Nat → Int32) → Prop) : Prop := (w_X7_isNumber x_1 (fun (r_1 : Int32) => ((r_1 = 0 → (w_X7_form_16 s_p0_newPoints s_p0_newLines s_p0_kinds s_p0_letters s_p0_lineCount s_p0_lines s_p0_marks s_p0_newRow s_p0_points Q)) ∧ (¬ r_1 = 0 → (w_X7_in x_2 (2 : Int32) (3 : Int32) (fun (r_10 : Int32) => ((¬ r_10 = 0 → (∃ n_, w_X7_form_30 x_1 x_2 (0 : Int32) s_p0_kinds s_p0_lineCount s_p0_lines s_p0_marks s_p0_newRow s_p0_points Q n_ (1 : Int32) (0 : Int32) s_p0_letters)) ∧ (r_10 = 0 → (w_X7_form_16 s_p0_newPoints s_p0_newLines s_p0_kinds s_p0_letters s_p0_lineCount s_p0_lines s_p0_marks s_p0_newRow s_p0_points Q)))))))))
-- X7_form
theorem iX7_form_X7 : ∀ w ∈ wsX70, w ∈ wsX7_form := by decide +kernel
set_option maxHeartbeats 4000000 in
set_option maxRecDepth 100000 in
theorem k_X7_form_280 {E : vE} {T : Nat → ClassId} {o_p0 : Nat} {a_p0 : Nat → Nat} {s_p0_finding : Int32} {s_p0_asked : Int64} {s_p0_newPoints : Int32} {s_p0_newLines : Int32} {s_p0_faultAt : Int64} {s_p0_tries : Int32} {s_p0_things : Int32} {s_p0_goals : Int32} {s_p0_level : Int32} {s_p0_kinds : Nat → Int32} {s_p0_letters : Nat → Int32} {s_p0_lineCount : Nat → Int32} {s_p0_lines : Nat → Int64} {s_p0_marks : Nat → Int32} {s_p0_newRow : Nat → Int64} {s_p0_points : Nat → Int32} {x_1 : Int32} {x_2 : Int32} {x_3 : Int32} {x_4 : Int32} {K_184 : (Int32) → (Int32) → (Nat → Int64) → Prop} {K_197 : (Int32) → (Int32) → (Nat → Int64) → Prop} {Q : Int32 → (Int32) → (Int32) → (Nat → Int32) → (Nat → Int32) → (Nat → Int32) → (Nat → Int64) → (Nat → Int32) → (Nat → Int64) → (Nat → Int32) → Prop} (X : vX E cX7_form 8 RX7 wsX7_form (vT T) (vr 2 42)) (r : r_X7_form E T o_p0 a_p0 s_p0_finding s_p0_asked s_p0_faultAt s_p0_tries s_p0_things s_p0_goals s_p0_level Q) (hK_184 : ∀ (x_3' : Int32) (s_p0_newLines' : Int32) (s_p0_newRow' : Nat → Int64), K_184 x_3' s_p0_newLines' s_p0_newRow' → V E 0 0 184 [(0, .ref o_p0), (1, .int x_1), (2, .int x_2), (3, .int x_3')] [] (cl_X7_form T o_p0 a_p0 s_p0_finding s_p0_asked s_p0_newPoints s_p0_newLines' s_p0_faultAt s_p0_tries s_p0_things s_p0_goals s_p0_level s_p0_kinds s_p0_letters s_p0_lineCount s_p0_lines s_p0_marks s_p0_newRow' s_p0_points)) (hK_197 : ∀ (x_4' : Int32) (s_p0_newLines' : Int32) (s_p0_newRow' : Nat → Int64), K_197 x_4' s_p0_newLines' s_p0_newRow' → V E 0 0 197 [(0, .ref o_p0), (1, .int x_1), (2, .int x_2), (3, .int x_3), (4, .int x_4')] [] (cl_X7_form T o_p0 a_p0 s_p0_finding s_p0_asked s_p0_newPoints s_p0_newLines' s_p0_faultAt s_p0_tries s_p0_things s_p0_goals s_p0_level s_p0_kinds s_p0_letters s_p0_lineCount s_p0_lines s_p0_marks s_p0_newRow' s_p0_points)) (h : w_X7_form_280 x_1 x_2 x_3 x_4 s_p0_newPoints s_p0_newLines s_p0_kinds s_p0_letters s_p0_lineCount s_p0_lines s_p0_marks s_p0_newRow s_p0_points K_184 K_197 Q) : V E 0 0 280 [(0, .ref o_p0), (1, .int x_1), (2, .int x_2), (3, .int x_3), (4, .int x_4)] [] (cl_X7_form T o_p0 a_p0 s_p0_finding s_p0_asked s_p0_newPoints s_p0_newLines s_p0_faultAt s_p0_tries s_p0_things s_p0_goals s_p0_level s_p0_kinds s_p0_letters s_p0_lineCount s_p0_lines s_p0_marks s_p0_newRow s_p0_points) := by
  unfold w_X7_form_280 at h
  refine v_iinc X (v := (x_4 + (1 : Int32))) (lv' := [(4, .int (x_4 + (1 : Int32))), (0, .ref o_p0), (1, .int x_1), (2, .int x_2), (3, .int x_3)]) 4 dX7_form_280 rfl rfl (by decide) rfl ?_
  refine v_goto X (tgt := 197) dX7_form_283 (by decide) ?_
  refine v_lv (lv' := [(0, .ref o_p0), (1, .int x_1), (2, .int x_2), (3, .int x_3), (4, .int (x_4 + (1 : Int32)))]) [1, 2, 3, 4, 0] rfl ?_
  exact hK_197 _ _ _ h
set_option maxHeartbeats 4000000 in
set_option maxRecDepth 100000 in
theorem k_X7_form_267 {E : vE} {T : Nat → ClassId} {o_p0 : Nat} {a_p0 : Nat → Nat} {s_p0_finding : Int32} {s_p0_asked : Int64} {s_p0_newPoints : Int32} {s_p0_newLines : Int32} {s_p0_faultAt : Int64} {s_p0_tries : Int32} {s_p0_things : Int32} {s_p0_goals : Int32} {s_p0_level : Int32} {s_p0_kinds : Nat → Int32} {s_p0_letters : Nat → Int32} {s_p0_lineCount : Nat → Int32} {s_p0_lines : Nat → Int64} {s_p0_marks : Nat → Int32} {s_p0_newRow : Nat → Int64} {s_p0_points : Nat → Int32} {x_1 : Int32} {x_2 : Int32} {x_3 : Int32} {x_4 : Int32} {x_5 : Int64} {t_0 : Int32} {K_184 : (Int32) → (Int32) → (Nat → Int64) → Prop} {K_197 : (Int32) → (Int32) → (Nat → Int64) → Prop} {Q : Int32 → (Int32) → (Int32) → (Nat → Int32) → (Nat → Int32) → (Nat → Int32) → (Nat → Int64) → (Nat → Int32) → (Nat → Int64) → (Nat → Int32) → Prop} (X : vX E cX7_form 8 RX7 wsX7_form (vT T) (vr 2 42)) (r : r_X7_form E T o_p0 a_p0 s_p0_finding s_p0_asked s_p0_faultAt s_p0_tries s_p0_things s_p0_goals s_p0_level Q) (hK_184 : ∀ (x_3' : Int32) (s_p0_newLines' : Int32) (s_p0_newRow' : Nat → Int64), K_184 x_3' s_p0_newLines' s_p0_newRow' → V E 0 0 184 [(0, .ref o_p0), (1, .int x_1), (2, .int x_2), (3, .int x_3')] [] (cl_X7_form T o_p0 a_p0 s_p0_finding s_p0_asked s_p0_newPoints s_p0_newLines' s_p0_faultAt s_p0_tries s_p0_things s_p0_goals s_p0_level s_p0_kinds s_p0_letters s_p0_lineCount s_p0_lines s_p0_marks s_p0_newRow' s_p0_points)) (hK_197 : ∀ (x_4' : Int32) (s_p0_newLines' : Int32) (s_p0_newRow' : Nat → Int64), K_197 x_4' s_p0_newLines' s_p0_newRow' → V E 0 0 197 [(0, .ref o_p0), (1, .int x_1), (2, .int x_2), (3, .int x_3), (4, .int x_4')] [] (cl_X7_form T o_p0 a_p0 s_p0_finding s_p0_asked s_p0_newPoints s_p0_newLines' s_p0_faultAt s_p0_tries s_p0_things s_p0_goals s_p0_level s_p0_kinds s_p0_letters s_p0_lineCount s_p0_lines s_p0_marks s_p0_newRow' s_p0_points)) (h : w_X7_form_267 x_1 x_2 x_3 x_4 x_5 t_0 s_p0_newPoints s_p0_newLines s_p0_kinds s_p0_letters s_p0_lineCount s_p0_lines s_p0_marks s_p0_newRow s_p0_points K_184 K_197 Q) : V E 0 0 267 [(0, .ref o_p0), (1, .int x_1), (2, .int x_2), (3, .int x_3), (4, .int x_4), (5, .long x_5)] [.int t_0] (cl_X7_form T o_p0 a_p0 s_p0_finding s_p0_asked s_p0_newPoints s_p0_newLines s_p0_faultAt s_p0_tries s_p0_things s_p0_goals s_p0_level s_p0_kinds s_p0_letters s_p0_lineCount s_p0_lines s_p0_marks s_p0_newRow s_p0_points) := by
  unfold w_X7_form_267 at h
  refine v_istore X (lv' := [(7, .int t_0), (0, .ref o_p0), (1, .int x_1), (2, .int x_2), (3, .int x_3), (4, .int x_4), (5, .long x_5)]) dX7_form_267 (by decide) rfl ?_
  refine v_iload X 0 dX7_form_269 rfl ?_
  refine v_if_eq X (tgt := 280) dX7_form_271 (by decide) (fun c_271 => ?_) (fun c_271 => ?_)
  · replace h := h.1 c_271
    refine v_lv (lv' := [(0, .ref o_p0), (1, .int x_1), (2, .int x_2), (3, .int x_3), (4, .int x_4)]) [1, 2, 3, 4, 5] rfl ?_
    exact k_X7_form_280 X r hK_184 hK_197 h
  · replace h := h.2 c_271
    refine v_aload_n X 1 dX7_form_274 rfl rfl ?_
    refine v_lload X 6 dX7_form_275 rfl ?_
    refine v_callVv X (As := [.long x_5]) (rest := []) 1 0 (c_X7_add (l := vl E) (D := vD E) (T := T) (o_p0 := o_p0) (a_p0 := a_p0) (s_p0_finding := s_p0_finding) (s_p0_asked := s_p0_asked) (s_p0_newPoints := s_p0_newPoints) (s_p0_newLines := s_p0_newLines) (s_p0_faultAt := s_p0_faultAt) (s_p0_tries := s_p0_tries) (s_p0_things := s_p0_things) (s_p0_goals := s_p0_goals) (s_p0_level := s_p0_level) (s_p0_newRow := s_p0_newRow) (x_1 := x_5) h) gX7_form_X7_add rfl rfl (by decide +kernel) ⟨Nat.zero_le _, Nat.zero_le _⟩ ⟨rfl, rfl, by decide, by decide⟩ (Nat.le_of_ble_eq_true rfl) rfl rfl (wr := [vI T (a_p0 5) 6 s_p0_kinds, vI T (a_p0 11) 160 s_p0_letters, vI T (a_p0 4) 6 s_p0_lineCount, vJ T (a_p0 7) 270 s_p0_lines, vI T (a_p0 6) 6 s_p0_marks, vI T (a_p0 3) 6 s_p0_points]) [0, 6] [1, 2, 3, 4, 5, 7] rfl rfl rfl rfl (by decide) rfl dX7_form_277 (fun u h => ?_)
    obtain ⟨u_277_0, u_277_1⟩ := u
    dsimp only at h
    refine v_ws (ws' := (cl_X7_form T o_p0 a_p0 s_p0_finding s_p0_asked s_p0_newPoints u_277_0 s_p0_faultAt s_p0_tries s_p0_things s_p0_goals s_p0_level s_p0_kinds s_p0_letters s_p0_lineCount s_p0_lines s_p0_marks u_277_1 s_p0_points)) [6, 0, 1, 2, 3, 4, 7, 5] rfl rfl ?_
    refine v_lv (lv' := [(0, .ref o_p0), (1, .int x_1), (2, .int x_2), (3, .int x_3), (4, .int x_4)]) [1, 2, 3, 4, 5] rfl ?_
    exact k_X7_form_280 X r hK_184 hK_197 h
set_option maxHeartbeats 4000000 in
set_option maxRecDepth 100000 in
theorem k_X7_form_266 {E : vE} {T : Nat → ClassId} {o_p0 : Nat} {a_p0 : Nat → Nat} {s_p0_finding : Int32} {s_p0_asked : Int64} {s_p0_newPoints : Int32} {s_p0_newLines : Int32} {s_p0_faultAt : Int64} {s_p0_tries : Int32} {s_p0_things : Int32} {s_p0_goals : Int32} {s_p0_level : Int32} {s_p0_kinds : Nat → Int32} {s_p0_letters : Nat → Int32} {s_p0_lineCount : Nat → Int32} {s_p0_lines : Nat → Int64} {s_p0_marks : Nat → Int32} {s_p0_newRow : Nat → Int64} {s_p0_points : Nat → Int32} {x_1 : Int32} {x_2 : Int32} {x_3 : Int32} {x_4 : Int32} {x_5 : Int64} {K_184 : (Int32) → (Int32) → (Nat → Int64) → Prop} {K_197 : (Int32) → (Int32) → (Nat → Int64) → Prop} {Q : Int32 → (Int32) → (Int32) → (Nat → Int32) → (Nat → Int32) → (Nat → Int32) → (Nat → Int64) → (Nat → Int32) → (Nat → Int64) → (Nat → Int32) → Prop} (X : vX E cX7_form 8 RX7 wsX7_form (vT T) (vr 2 42)) (r : r_X7_form E T o_p0 a_p0 s_p0_finding s_p0_asked s_p0_faultAt s_p0_tries s_p0_things s_p0_goals s_p0_level Q) (hK_184 : ∀ (x_3' : Int32) (s_p0_newLines' : Int32) (s_p0_newRow' : Nat → Int64), K_184 x_3' s_p0_newLines' s_p0_newRow' → V E 0 0 184 [(0, .ref o_p0), (1, .int x_1), (2, .int x_2), (3, .int x_3')] [] (cl_X7_form T o_p0 a_p0 s_p0_finding s_p0_asked s_p0_newPoints s_p0_newLines' s_p0_faultAt s_p0_tries s_p0_things s_p0_goals s_p0_level s_p0_kinds s_p0_letters s_p0_lineCount s_p0_lines s_p0_marks s_p0_newRow' s_p0_points)) (hK_197 : ∀ (x_4' : Int32) (s_p0_newLines' : Int32) (s_p0_newRow' : Nat → Int64), K_197 x_4' s_p0_newLines' s_p0_newRow' → V E 0 0 197 [(0, .ref o_p0), (1, .int x_1), (2, .int x_2), (3, .int x_3), (4, .int x_4')] [] (cl_X7_form T o_p0 a_p0 s_p0_finding s_p0_asked s_p0_newPoints s_p0_newLines' s_p0_faultAt s_p0_tries s_p0_things s_p0_goals s_p0_level s_p0_kinds s_p0_letters s_p0_lineCount s_p0_lines s_p0_marks s_p0_newRow' s_p0_points)) (h : w_X7_form_266 x_1 x_2 x_3 x_4 x_5 s_p0_newPoints s_p0_newLines s_p0_kinds s_p0_letters s_p0_lineCount s_p0_lines s_p0_marks s_p0_newRow s_p0_points K_184 K_197 Q) : V E 0 0 266 [(0, .ref o_p0), (1, .int x_1), (2, .int x_2), (3, .int x_3), (4, .int x_4), (5, .long x_5)] [] (cl_X7_form T o_p0 a_p0 s_p0_finding s_p0_asked s_p0_newPoints s_p0_newLines s_p0_faultAt s_p0_tries s_p0_things s_p0_goals s_p0_level s_p0_kinds s_p0_letters s_p0_lineCount s_p0_lines s_p0_marks s_p0_newRow s_p0_points) := by
  unfold w_X7_form_266 at h
  refine v_iconst X dX7_form_266 (v := (0 : Int32)) (by decide) ?_
  exact k_X7_form_267 X r hK_184 hK_197 h
set_option maxHeartbeats 4000000 in
set_option maxRecDepth 100000 in
theorem k_X7_form_197 {E : vE} {T : Nat → ClassId} {o_p0 : Nat} {a_p0 : Nat → Nat} {s_p0_finding : Int32} {s_p0_asked : Int64} {s_p0_newPoints : Int32} {s_p0_faultAt : Int64} {s_p0_tries : Int32} {s_p0_things : Int32} {s_p0_goals : Int32} {s_p0_level : Int32} {s_p0_kinds : Nat → Int32} {s_p0_letters : Nat → Int32} {s_p0_lineCount : Nat → Int32} {s_p0_lines : Nat → Int64} {s_p0_marks : Nat → Int32} {s_p0_points : Nat → Int32} {x_1 : Int32} {x_2 : Int32} {x_3 : Int32} {K_184 : (Int32) → (Int32) → (Nat → Int64) → Prop} {Q : Int32 → (Int32) → (Int32) → (Nat → Int32) → (Nat → Int32) → (Nat → Int32) → (Nat → Int64) → (Nat → Int32) → (Nat → Int64) → (Nat → Int32) → Prop} (X : vX E cX7_form 8 RX7 wsX7_form (vT T) (vr 2 42)) (r : r_X7_form E T o_p0 a_p0 s_p0_finding s_p0_asked s_p0_faultAt s_p0_tries s_p0_things s_p0_goals s_p0_level Q) (hK_184 : ∀ (x_3' : Int32) (s_p0_newLines' : Int32) (s_p0_newRow' : Nat → Int64), K_184 x_3' s_p0_newLines' s_p0_newRow' → V E 0 0 184 [(0, .ref o_p0), (1, .int x_1), (2, .int x_2), (3, .int x_3')] [] (cl_X7_form T o_p0 a_p0 s_p0_finding s_p0_asked s_p0_newPoints s_p0_newLines' s_p0_faultAt s_p0_tries s_p0_things s_p0_goals s_p0_level s_p0_kinds s_p0_letters s_p0_lineCount s_p0_lines s_p0_marks s_p0_newRow' s_p0_points)) : ∀ (n_ : Nat) (x_4 : Int32) (s_p0_newLines : Int32) (s_p0_newRow : Nat → Int64), w_X7_form_197 x_1 x_2 x_3 s_p0_newPoints s_p0_kinds s_p0_letters s_p0_lineCount s_p0_lines s_p0_marks s_p0_points K_184 Q n_ x_4 s_p0_newLines s_p0_newRow → V E 0 0 197 [(0, .ref o_p0), (1, .int x_1), (2, .int x_2), (3, .int x_3), (4, .int x_4)] [] (cl_X7_form T o_p0 a_p0 s_p0_finding s_p0_asked s_p0_newPoints s_p0_newLines s_p0_faultAt s_p0_tries s_p0_things s_p0_goals s_p0_level s_p0_kinds s_p0_letters s_p0_lineCount s_p0_lines s_p0_marks s_p0_newRow s_p0_points) := by
  intro n_
  induction n_ with
  | zero => intro x_4 s_p0_newLines s_p0_newRow h; exact h.elim
  | succ n_ hK_197 =>
    intro x_4 s_p0_newLines s_p0_newRow h
    replace h : w_X7_form_197s x_1 x_2 x_3 s_p0_newPoints s_p0_kinds s_p0_letters s_p0_lineCount s_p0_lines s_p0_marks s_p0_points K_184 Q (w_X7_form_197 x_1 x_2 x_3 s_p0_newPoints s_p0_kinds s_p0_letters s_p0_lineCount s_p0_lines s_p0_marks s_p0_points K_184 Q n_) x_4 s_p0_newLines s_p0_newRow := h
    unfold w_X7_form_197s at h
    refine v_iload X 4 dX7_form_197 rfl ?_
    refine v_aload_n X 0 dX7_form_199 rfl rfl ?_
    refine v_get X 0 8 (F := TX7) (N := 33) iX7_form_X7 rfl rfl (by decide) (List.mem_of_getElem? (i := 1) rfl) rfl rfl dX7_form_200 ?_
    refine v_icmp_ge X (tgt := 286) dX7_form_203 (by decide) (fun c_203 => ?_) (fun c_203 => ?_)
    · replace h := h.1 c_203
      refine v_iinc X (v := (x_3 + (1 : Int32))) (lv' := [(3, .int (x_3 + (1 : Int32))), (0, .ref o_p0), (1, .int x_1), (2, .int x_2), (4, .int x_4)]) 3 dX7_form_286 rfl rfl (by decide) rfl ?_
      refine v_goto X (tgt := 184) dX7_form_289 (by decide) ?_
      refine v_lv (lv' := [(0, .ref o_p0), (1, .int x_1), (2, .int x_2), (3, .int (x_3 + (1 : Int32)))]) [1, 2, 3, 0] rfl ?_
      exact hK_184 _ _ _ h
    · replace h := h.2 c_203
      refine v_aload_n X 0 dX7_form_206 rfl rfl ?_
      refine v_iload_n X 3 dX7_form_207 rfl rfl ?_
      refine v_iload X 4 dX7_form_208 rfl ?_
      refine v_iload_n X 2 dX7_form_210 rfl rfl ?_
      refine v_callVi X (As := [.int x_3, .int x_4, .int x_2]) (rest := []) 3 0 (c_X7_isPerp (l := vl E) (D := vD E) (T := T) (o_p0 := o_p0) (a_p0 := a_p0) (s_p0_finding := s_p0_finding) (s_p0_asked := s_p0_asked) (s_p0_newPoints := s_p0_newPoints) (s_p0_newLines := s_p0_newLines) (s_p0_faultAt := s_p0_faultAt) (s_p0_tries := s_p0_tries) (s_p0_things := s_p0_things) (s_p0_goals := s_p0_goals) (s_p0_level := s_p0_level) (s_p0_letters := s_p0_letters) (x_1 := x_3) (x_2 := x_4) (x_3 := x_2) h) gX7_form_X7_isPerp rfl rfl (by decide +kernel) ⟨Nat.zero_le _, Nat.zero_le _⟩ ⟨rfl, rfl, by decide, by decide⟩ (Nat.le_of_ble_eq_true rfl) rfl rfl (wr := [vI T (a_p0 5) 6 s_p0_kinds, vI T (a_p0 4) 6 s_p0_lineCount, vJ T (a_p0 7) 270 s_p0_lines, vI T (a_p0 6) 6 s_p0_marks, vJ T (a_p0 10) 120 s_p0_newRow, vI T (a_p0 3) 6 s_p0_points]) [0, 2] [1, 3, 4, 5, 6, 7] rfl rfl rfl rfl (by decide) rfl dX7_form_211 (fun r_211 u h => ?_)
      refine v_ws (ws' := (cl_X7_form T o_p0 a_p0 s_p0_finding s_p0_asked s_p0_newPoints s_p0_newLines s_p0_faultAt s_p0_tries s_p0_things s_p0_goals s_p0_level s_p0_kinds s_p0_letters s_p0_lineCount s_p0_lines s_p0_marks s_p0_newRow s_p0_points)) [6, 0, 7, 1, 2, 3, 4, 5] rfl rfl ?_
      refine v_if_eq X (tgt := 280) dX7_form_214 (by decide) (fun c_214 => ?_) (fun c_214 => ?_)
      · replace h := h.1 c_214
        exact k_X7_form_280 X r hK_184 hK_197 h
      · replace h := h.2 c_214
        refine v_aload_n X 0 dX7_form_217 rfl rfl ?_
        refine v_iload_n X 3 dX7_form_218 rfl rfl ?_
        refine v_iload X 4 dX7_form_219 rfl ?_
        refine v_iload_n X 2 dX7_form_221 rfl rfl ?_
        refine v_callVl X (As := [.int x_3, .int x_4, .int x_2]) (rest := []) 3 0 (c_X7_lineOf (l := vl E) (D := vD E) (T := T) (o_p0 := o_p0) (a_p0 := a_p0) (s_p0_finding := s_p0_finding) (s_p0_asked := s_p0_asked) (s_p0_newPoints := s_p0_newPoints) (s_p0_newLines := s_p0_newLines) (s_p0_faultAt := s_p0_faultAt) (s_p0_tries := s_p0_tries) (s_p0_things := s_p0_things) (s_p0_goals := s_p0_goals) (s_p0_level := s_p0_level) (s_p0_letters := s_p0_letters) (x_1 := x_3) (x_2 := x_4) (x_3 := x_2) h) gX7_form_X7_lineOf rfl rfl (by decide +kernel) ⟨Nat.zero_le _, Nat.zero_le _⟩ ⟨rfl, rfl, by decide, by decide⟩ (Nat.le_of_ble_eq_true rfl) rfl rfl (wr := [vI T (a_p0 5) 6 s_p0_kinds, vI T (a_p0 4) 6 s_p0_lineCount, vJ T (a_p0 7) 270 s_p0_lines, vI T (a_p0 6) 6 s_p0_marks, vJ T (a_p0 10) 120 s_p0_newRow, vI T (a_p0 3) 6 s_p0_points]) [0, 2] [1, 3, 4, 5, 6, 7] rfl rfl rfl rfl (by decide) rfl dX7_form_222 (fun r_222 u h => ?_)
        refine v_ws (ws' := (cl_X7_form T o_p0 a_p0 s_p0_finding s_p0_asked s_p0_newPoints s_p0_newLines s_p0_faultAt s_p0_tries s_p0_things s_p0_goals s_p0_level s_p0_kinds s_p0_letters s_p0_lineCount s_p0_lines s_p0_marks s_p0_newRow s_p0_points)) [6, 0, 7, 1, 2, 3, 4, 5] rfl rfl ?_
        refine v_lstore X (lv' := [(5, .long r_222), (0, .ref o_p0), (1, .int x_1), (2, .int x_2), (3, .int x_3), (4, .int x_4)]) dX7_form_225 (by decide) rfl ?_
        refine v_lload X 0 dX7_form_227 rfl ?_
        refine v_lconst X dX7_form_229 (v := (1 : Int64)) (by decide) ?_
        refine v_iload_n X 4 dX7_form_230 rfl rfl ?_
        refine v_lshl X dX7_form_231 ?_
        refine v_lconst X dX7_form_232 (v := (1 : Int64)) (by decide) ?_
        refine v_lsub X dX7_form_233 ?_
        refine v_land X dX7_form_234 ?_
        refine v_lconst X dX7_form_235 (v := (0 : Int64)) (by decide) ?_
        refine v_lcmp X dX7_form_236 ?_
        refine v_if_ne X (tgt := 266) dX7_form_237 (by decide) (fun c_237 => ?_) (fun c_237 => ?_)
        · replace h := h.1 c_237
          refine v_lv (lv' := [(0, .ref o_p0), (1, .int x_1), (2, .int x_2), (3, .int x_3), (4, .int x_4), (5, .long r_222)]) [1, 2, 3, 4, 5, 0] rfl ?_
          exact k_X7_form_266 X r hK_184 hK_197 h
        · replace h := h.2 c_237
          refine v_lload X 0 dX7_form_240 rfl ?_
          refine v_lconst X dX7_form_242 (v := (1 : Int64)) (by decide) ?_
          refine v_iload X 5 dX7_form_243 rfl ?_
          refine v_lshl X dX7_form_245 ?_
          refine v_lconst X dX7_form_246 (v := (1 : Int64)) (by decide) ?_
          refine v_lsub X dX7_form_247 ?_
          refine v_land X dX7_form_248 ?_
          refine v_lconst X dX7_form_249 (v := (1 : Int64)) (by decide) ?_
          refine v_iload_n X 4 dX7_form_250 rfl rfl ?_
          refine v_lshl X dX7_form_251 ?_
          refine v_ldc2 X (v := (-1 : Int64)) (List.mem_of_getElem? (i := 4) rfl) dX7_form_252 ?_
          refine v_lxor X dX7_form_255 ?_
          refine v_land X dX7_form_256 ?_
          refine v_lconst X dX7_form_257 (v := (0 : Int64)) (by decide) ?_
          refine v_lcmp X dX7_form_258 ?_
          refine v_if_ne X (tgt := 266) dX7_form_259 (by decide) (fun c_259 => ?_) (fun c_259 => ?_)
          · replace h := h.1 c_259
            refine v_lv (lv' := [(0, .ref o_p0), (1, .int x_1), (2, .int x_2), (3, .int x_3), (4, .int x_4), (5, .long r_222)]) [1, 2, 3, 4, 5, 0] rfl ?_
            exact k_X7_form_266 X r hK_184 hK_197 h
          · replace h := h.2 c_259
            refine v_iconst X dX7_form_262 (v := (1 : Int32)) (by decide) ?_
            refine v_goto X (tgt := 267) dX7_form_263 (by decide) ?_
            refine v_lv (lv' := [(0, .ref o_p0), (1, .int x_1), (2, .int x_2), (3, .int x_3), (4, .int x_4), (5, .long r_222)]) [1, 2, 3, 4, 5, 0] rfl ?_
            exact k_X7_form_267 X r hK_184 hK_197 h
set_option maxHeartbeats 4000000 in
set_option maxRecDepth 100000 in
theorem k_X7_form_184 {E : vE} {T : Nat → ClassId} {o_p0 : Nat} {a_p0 : Nat → Nat} {s_p0_finding : Int32} {s_p0_asked : Int64} {s_p0_newPoints : Int32} {s_p0_faultAt : Int64} {s_p0_tries : Int32} {s_p0_things : Int32} {s_p0_goals : Int32} {s_p0_level : Int32} {s_p0_kinds : Nat → Int32} {s_p0_letters : Nat → Int32} {s_p0_lineCount : Nat → Int32} {s_p0_lines : Nat → Int64} {s_p0_marks : Nat → Int32} {s_p0_points : Nat → Int32} {x_1 : Int32} {x_2 : Int32} {Q : Int32 → (Int32) → (Int32) → (Nat → Int32) → (Nat → Int32) → (Nat → Int32) → (Nat → Int64) → (Nat → Int32) → (Nat → Int64) → (Nat → Int32) → Prop} (X : vX E cX7_form 8 RX7 wsX7_form (vT T) (vr 2 42)) (r : r_X7_form E T o_p0 a_p0 s_p0_finding s_p0_asked s_p0_faultAt s_p0_tries s_p0_things s_p0_goals s_p0_level Q) : ∀ (n_ : Nat) (x_3 : Int32) (s_p0_newLines : Int32) (s_p0_newRow : Nat → Int64), w_X7_form_184 x_1 x_2 s_p0_newPoints s_p0_kinds s_p0_letters s_p0_lineCount s_p0_lines s_p0_marks s_p0_points Q n_ x_3 s_p0_newLines s_p0_newRow → V E 0 0 184 [(0, .ref o_p0), (1, .int x_1), (2, .int x_2), (3, .int x_3)] [] (cl_X7_form T o_p0 a_p0 s_p0_finding s_p0_asked s_p0_newPoints s_p0_newLines s_p0_faultAt s_p0_tries s_p0_things s_p0_goals s_p0_level s_p0_kinds s_p0_letters s_p0_lineCount s_p0_lines s_p0_marks s_p0_newRow s_p0_points) := by
  intro n_
  induction n_ with
  | zero => intro x_3 s_p0_newLines s_p0_newRow h; exact h.elim
  | succ n_ hK_184 =>
    intro x_3 s_p0_newLines s_p0_newRow h
    replace h : w_X7_form_184s x_1 x_2 s_p0_newPoints s_p0_kinds s_p0_letters s_p0_lineCount s_p0_lines s_p0_marks s_p0_points Q (w_X7_form_184 x_1 x_2 s_p0_newPoints s_p0_kinds s_p0_letters s_p0_lineCount s_p0_lines s_p0_marks s_p0_points Q n_) x_3 s_p0_newLines s_p0_newRow := h
    unfold w_X7_form_184s at h
    refine v_iload_n X 3 dX7_form_184 rfl rfl ?_
    refine v_aload_n X 0 dX7_form_185 rfl rfl ?_
    refine v_get X 0 8 (F := TX7) (N := 33) iX7_form_X7 rfl rfl (by decide) (List.mem_of_getElem? (i := 1) rfl) rfl rfl dX7_form_186 ?_
    refine v_icmp_ge X (tgt := 292) dX7_form_189 (by decide) (fun c_189 => ?_) (fun c_189 => ?_)
    · replace h := h.1 c_189
      refine v_aload_n X 0 dX7_form_292 rfl rfl ?_
      refine v_iload_n X 1 dX7_form_293 rfl rfl ?_
      refine v_iconst X dX7_form_294 (v := (2 : Int32)) (by decide) ?_
      refine v_iload_n X 2 dX7_form_295 rfl rfl ?_
      refine v_callVi X (As := [.int x_1, .int (2 : Int32), .int x_2]) (rest := []) 3 0 (c_X7_keep (l := vl E) (D := vD E) (T := T) (o_p0 := o_p0) (a_p0 := a_p0) (s_p0_finding := s_p0_finding) (s_p0_asked := s_p0_asked) (s_p0_newPoints := s_p0_newPoints) (s_p0_newLines := s_p0_newLines) (s_p0_faultAt := s_p0_faultAt) (s_p0_tries := s_p0_tries) (s_p0_things := s_p0_things) (s_p0_goals := s_p0_goals) (s_p0_level := s_p0_level) (s_p0_kinds := s_p0_kinds) (s_p0_lineCount := s_p0_lineCount) (s_p0_lines := s_p0_lines) (s_p0_marks := s_p0_marks) (s_p0_newRow := s_p0_newRow) (s_p0_points := s_p0_points) (x_1 := x_1) (x_2 := (2 : Int32)) (x_3 := x_2) h) gX7_form_X7_keep rfl rfl (by decide +kernel) ⟨Nat.zero_le _, Nat.zero_le _⟩ ⟨rfl, rfl, by decide, by decide⟩ (Nat.le_of_ble_eq_true rfl) rfl rfl (wr := [vI T (a_p0 11) 160 s_p0_letters]) [0, 1, 3, 4, 5, 6, 7] [2] rfl rfl rfl rfl (by decide) rfl dX7_form_296 (fun r_296 u h => ?_)
      obtain ⟨u_296_0, u_296_1, u_296_2, u_296_3, u_296_4⟩ := u
      dsimp only at h
      refine v_ws (ws' := (cl_X7_form T o_p0 a_p0 s_p0_finding s_p0_asked s_p0_newPoints s_p0_newLines s_p0_faultAt s_p0_tries s_p0_things s_p0_goals s_p0_level u_296_0 s_p0_letters u_296_1 u_296_2 u_296_3 s_p0_newRow u_296_4)) [1, 2, 0, 3, 4, 5, 6, 7] rfl rfl ?_
      exact r _ _ _ (s_p0_newPoints, s_p0_newLines, u_296_0, s_p0_letters, u_296_1, u_296_2, u_296_3, s_p0_newRow, u_296_4) _ dX7_form_299 h rfl
    · replace h := h.2 c_189
      refine v_iload_n X 3 dX7_form_192 rfl rfl ?_
      refine v_iconst X dX7_form_193 (v := (1 : Int32)) (by decide) ?_
      refine v_iadd X dX7_form_194 ?_
      refine v_istore X (lv' := [(4, .int (x_3 + (1 : Int32))), (0, .ref o_p0), (1, .int x_1), (2, .int x_2), (3, .int x_3)]) dX7_form_195 (by decide) rfl ?_
      refine v_lv (lv' := [(0, .ref o_p0), (1, .int x_1), (2, .int x_2), (3, .int x_3), (4, .int (x_3 + (1 : Int32)))]) [1, 2, 3, 4, 0] rfl ?_
      obtain ⟨n_, h⟩ := h
      exact k_X7_form_197 X r hK_184 n_ _ _ _ h
set_option maxHeartbeats 4000000 in
set_option maxRecDepth 100000 in
theorem k_X7_form_176 {E : vE} {T : Nat → ClassId} {o_p0 : Nat} {a_p0 : Nat → Nat} {s_p0_finding : Int32} {s_p0_asked : Int64} {s_p0_newPoints : Int32} {s_p0_newLines : Int32} {s_p0_faultAt : Int64} {s_p0_tries : Int32} {s_p0_things : Int32} {s_p0_goals : Int32} {s_p0_level : Int32} {s_p0_kinds : Nat → Int32} {s_p0_letters : Nat → Int32} {s_p0_lineCount : Nat → Int32} {s_p0_lines : Nat → Int64} {s_p0_marks : Nat → Int32} {s_p0_newRow : Nat → Int64} {s_p0_points : Nat → Int32} {x_1 : Int32} {x_2 : Int32} {x_3 : Int32} {K_30 : (Int32) → (Int32) → (Nat → Int32) → Prop} {Q : Int32 → (Int32) → (Int32) → (Nat → Int32) → (Nat → Int32) → (Nat → Int32) → (Nat → Int64) → (Nat → Int32) → (Nat → Int64) → (Nat → Int32) → Prop} (X : vX E cX7_form 8 RX7 wsX7_form (vT T) (vr 2 42)) (r : r_X7_form E T o_p0 a_p0 s_p0_finding s_p0_asked s_p0_faultAt s_p0_tries s_p0_things s_p0_goals s_p0_level Q) (hK_30 : ∀ (x_3' : Int32) (s_p0_newPoints' : Int32) (s_p0_letters' : Nat → Int32), K_30 x_3' s_p0_newPoints' s_p0_letters' → V E 0 0 30 [(0, .ref o_p0), (1, .int x_1), (2, .int x_2), (3, .int x_3')] [] (cl_X7_form T o_p0 a_p0 s_p0_finding s_p0_asked s_p0_newPoints' s_p0_newLines s_p0_faultAt s_p0_tries s_p0_things s_p0_goals s_p0_level s_p0_kinds s_p0_letters' s_p0_lineCount s_p0_lines s_p0_marks s_p0_newRow s_p0_points)) (h : w_X7_form_176 x_1 x_2 x_3 s_p0_newPoints s_p0_newLines s_p0_kinds s_p0_letters s_p0_lineCount s_p0_lines s_p0_marks s_p0_newRow s_p0_points K_30 Q) : V E 0 0 176 [(0, .ref o_p0), (1, .int x_1), (2, .int x_2), (3, .int x_3)] [] (cl_X7_form T o_p0 a_p0 s_p0_finding s_p0_asked s_p0_newPoints s_p0_newLines s_p0_faultAt s_p0_tries s_p0_things s_p0_goals s_p0_level s_p0_kinds s_p0_letters s_p0_lineCount s_p0_lines s_p0_marks s_p0_newRow s_p0_points) := by
  unfold w_X7_form_176 at h
  refine v_iinc X (v := (x_3 + (1 : Int32))) (lv' := [(3, .int (x_3 + (1 : Int32))), (0, .ref o_p0), (1, .int x_1), (2, .int x_2)]) 3 dX7_form_176 rfl rfl (by decide) rfl ?_
  refine v_goto X (tgt := 30) dX7_form_179 (by decide) ?_
  refine v_lv (lv' := [(0, .ref o_p0), (1, .int x_1), (2, .int x_2), (3, .int (x_3 + (1 : Int32)))]) [1, 2, 3, 0] rfl ?_
  exact hK_30 _ _ _ h
set_option maxHeartbeats 4000000 in
set_option maxRecDepth 100000 in
theorem k_X7_form_99 {E : vE} {T : Nat → ClassId} {o_p0 : Nat} {a_p0 : Nat → Nat} {s_p0_finding : Int32} {s_p0_asked : Int64} {s_p0_newPoints : Int32} {s_p0_newLines : Int32} {s_p0_faultAt : Int64} {s_p0_tries : Int32} {s_p0_things : Int32} {s_p0_goals : Int32} {s_p0_level : Int32} {s_p0_kinds : Nat → Int32} {s_p0_letters : Nat → Int32} {s_p0_lineCount : Nat → Int32} {s_p0_lines : Nat → Int64} {s_p0_marks : Nat → Int32} {s_p0_newRow : Nat → Int64} {s_p0_points : Nat → Int32} {x_1 : Int32} {x_2 : Int32} {x_3 : Int32} {x_4 : Int32} {x_5 : Int32} {x_6 : Int32} {t_0 : Int32} {K_30 : (Int32) → (Int32) → (Nat → Int32) → Prop} {Q : Int32 → (Int32) → (Int32) → (Nat → Int32) → (Nat → Int32) → (Nat → Int32) → (Nat → Int64) → (Nat → Int32) → (Nat → Int64) → (Nat → Int32) → Prop} (X : vX E cX7_form 8 RX7 wsX7_form (vT T) (vr 2 42)) (r : r_X7_form E T o_p0 a_p0 s_p0_finding s_p0_asked s_p0_faultAt s_p0_tries s_p0_things s_p0_goals s_p0_level Q) (hK_30 : ∀ (x_3' : Int32) (s_p0_newPoints' : Int32) (s_p0_letters' : Nat → Int32), K_30 x_3' s_p0_newPoints' s_p0_letters' → V E 0 0 30 [(0, .ref o_p0), (1, .int x_1), (2, .int x_2), (3, .int x_3')] [] (cl_X7_form T o_p0 a_p0 s_p0_finding s_p0_asked s_p0_newPoints' s_p0_newLines s_p0_faultAt s_p0_tries s_p0_things s_p0_goals s_p0_level s_p0_kinds s_p0_letters' s_p0_lineCount s_p0_lines s_p0_marks s_p0_newRow s_p0_points)) (h : w_X7_form_99 x_1 x_2 x_3 x_4 x_5 x_6 t_0 s_p0_newPoints s_p0_newLines s_p0_kinds s_p0_letters s_p0_lineCount s_p0_lines s_p0_marks s_p0_newRow s_p0_points K_30 Q) : V E 0 0 99 [(0, .ref o_p0), (1, .int x_1), (2, .int x_2), (3, .int x_3), (4, .int x_4), (5, .int x_5), (6, .int x_6)] [.int t_0] (cl_X7_form T o_p0 a_p0 s_p0_finding s_p0_asked s_p0_newPoints s_p0_newLines s_p0_faultAt s_p0_tries s_p0_things s_p0_goals s_p0_level s_p0_kinds s_p0_letters s_p0_lineCount s_p0_lines s_p0_marks s_p0_newRow s_p0_points) := by
  unfold w_X7_form_99 at h
  refine v_istore X (lv' := [(7, .int t_0), (0, .ref o_p0), (1, .int x_1), (2, .int x_2), (3, .int x_3), (4, .int x_4), (5, .int x_5), (6, .int x_6)]) dX7_form_99 (by decide) rfl ?_
  refine v_iload X 0 dX7_form_101 rfl ?_
  refine v_iconst X dX7_form_103 (v := (1 : Int32)) (by decide) ?_
  refine v_icmp_ne X (tgt := 176) dX7_form_104 (by decide) (fun c_104 => ?_) (fun c_104 => ?_)
  · replace h := h.1 c_104
    refine v_lv (lv' := [(0, .ref o_p0), (1, .int x_1), (2, .int x_2), (3, .int x_3)]) [1, 2, 3, 4] rfl ?_
    exact k_X7_form_176 X r hK_30 h
  · replace h := h.2 c_104
    refine v_aload_n X 1 dX7_form_107 rfl rfl ?_
    refine v_get X 0 11 (F := TX7) (N := 33) iX7_form_X7 rfl rfl (by decide) (List.mem_of_getElem? (i := 3) rfl) rfl rfl dX7_form_108 ?_
    refine v_iconst X dX7_form_111 (v := (4 : Int32)) (by decide) ?_
    refine v_aload_n X 1 dX7_form_112 rfl rfl ?_
    refine v_get X 0 8 (F := TX7) (N := 33) iX7_form_X7 rfl rfl (by decide) (List.mem_of_getElem? (i := 1) rfl) rfl rfl dX7_form_113 ?_
    refine v_imul X dX7_form_116 ?_
    refine v_iload X 5 dX7_form_117 rfl ?_
    refine v_iast X (ws' := (cl_X7_form T o_p0 a_p0 s_p0_finding s_p0_asked s_p0_newPoints s_p0_newLines s_p0_faultAt s_p0_tries s_p0_things s_p0_goals s_p0_level s_p0_kinds (upd s_p0_letters (((4 : Int32) * s_p0_newPoints)).toNatClampNeg x_4) s_p0_lineCount s_p0_lines s_p0_marks s_p0_newRow s_p0_points)) 2 0 rfl rfl h.1 rfl dX7_form_119 ?_
    replace h := h.2
    refine v_aload_n X 1 dX7_form_120 rfl rfl ?_
    refine v_get X 0 11 (F := TX7) (N := 33) iX7_form_X7 rfl rfl (by decide) (List.mem_of_getElem? (i := 3) rfl) rfl rfl dX7_form_121 ?_
    refine v_iconst X dX7_form_124 (v := (4 : Int32)) (by decide) ?_
    refine v_aload_n X 1 dX7_form_125 rfl rfl ?_
    refine v_get X 0 8 (F := TX7) (N := 33) iX7_form_X7 rfl rfl (by decide) (List.mem_of_getElem? (i := 1) rfl) rfl rfl dX7_form_126 ?_
    refine v_imul X dX7_form_129 ?_
    refine v_iconst X dX7_form_130 (v := (1 : Int32)) (by decide) ?_
    refine v_iadd X dX7_form_131 ?_
    refine v_iload X 6 dX7_form_132 rfl ?_
    refine v_iast X (ws' := (cl_X7_form T o_p0 a_p0 s_p0_finding s_p0_asked s_p0_newPoints s_p0_newLines s_p0_faultAt s_p0_tries s_p0_things s_p0_goals s_p0_level s_p0_kinds (upd (upd s_p0_letters (((4 : Int32) * s_p0_newPoints)).toNatClampNeg x_4) ((((4 : Int32) * s_p0_newPoints) + (1 : Int32))).toNatClampNeg x_5) s_p0_lineCount s_p0_lines s_p0_marks s_p0_newRow s_p0_points)) 2 0 rfl rfl h.1 rfl dX7_form_134 ?_
    replace h := h.2
    refine v_aload_n X 1 dX7_form_135 rfl rfl ?_
    refine v_get X 0 11 (F := TX7) (N := 33) iX7_form_X7 rfl rfl (by decide) (List.mem_of_getElem? (i := 3) rfl) rfl rfl dX7_form_136 ?_
    refine v_iconst X dX7_form_139 (v := (4 : Int32)) (by decide) ?_
    refine v_aload_n X 1 dX7_form_140 rfl rfl ?_
    refine v_get X 0 8 (F := TX7) (N := 33) iX7_form_X7 rfl rfl (by decide) (List.mem_of_getElem? (i := 1) rfl) rfl rfl dX7_form_141 ?_
    refine v_imul X dX7_form_144 ?_
    refine v_iconst X dX7_form_145 (v := (2 : Int32)) (by decide) ?_
    refine v_iadd X dX7_form_146 ?_
    refine v_iload X 7 dX7_form_147 rfl ?_
    refine v_iast X (ws' := (cl_X7_form T o_p0 a_p0 s_p0_finding s_p0_asked s_p0_newPoints s_p0_newLines s_p0_faultAt s_p0_tries s_p0_things s_p0_goals s_p0_level s_p0_kinds (upd (upd (upd s_p0_letters (((4 : Int32) * s_p0_newPoints)).toNatClampNeg x_4) ((((4 : Int32) * s_p0_newPoints) + (1 : Int32))).toNatClampNeg x_5) ((((4 : Int32) * s_p0_newPoints) + (2 : Int32))).toNatClampNeg x_6) s_p0_lineCount s_p0_lines s_p0_marks s_p0_newRow s_p0_points)) 2 0 rfl rfl h.1 rfl dX7_form_149 ?_
    replace h := h.2
    refine v_aload_n X 1 dX7_form_150 rfl rfl ?_
    refine v_get X 0 11 (F := TX7) (N := 33) iX7_form_X7 rfl rfl (by decide) (List.mem_of_getElem? (i := 3) rfl) rfl rfl dX7_form_151 ?_
    refine v_iconst X dX7_form_154 (v := (4 : Int32)) (by decide) ?_
    refine v_aload_n X 1 dX7_form_155 rfl rfl ?_
    refine v_get X 0 8 (F := TX7) (N := 33) iX7_form_X7 rfl rfl (by decide) (List.mem_of_getElem? (i := 1) rfl) rfl rfl dX7_form_156 ?_
    refine v_imul X dX7_form_159 ?_
    refine v_iconst X dX7_form_160 (v := (3 : Int32)) (by decide) ?_
    refine v_iadd X dX7_form_161 ?_
    refine v_iload_n X 4 dX7_form_162 rfl rfl ?_
    refine v_iload_n X 3 dX7_form_163 rfl rfl ?_
    refine v_irem X dX7_form_164 h.1 ?_
    replace h := h.2
    refine v_iast X (ws' := (cl_X7_form T o_p0 a_p0 s_p0_finding s_p0_asked s_p0_newPoints s_p0_newLines s_p0_faultAt s_p0_tries s_p0_things s_p0_goals s_p0_level s_p0_kinds (upd (upd (upd (upd s_p0_letters (((4 : Int32) * s_p0_newPoints)).toNatClampNeg x_4) ((((4 : Int32) * s_p0_newPoints) + (1 : Int32))).toNatClampNeg x_5) ((((4 : Int32) * s_p0_newPoints) + (2 : Int32))).toNatClampNeg x_6) ((((4 : Int32) * s_p0_newPoints) + (3 : Int32))).toNatClampNeg (vrem x_3 x_2)) s_p0_lineCount s_p0_lines s_p0_marks s_p0_newRow s_p0_points)) 2 0 rfl rfl h.1 rfl dX7_form_165 ?_
    replace h := h.2
    refine v_aload_n X 1 dX7_form_166 rfl rfl ?_
    refine v_dup X dX7_form_167 rfl ?_
    refine v_get X 0 8 (F := TX7) (N := 33) iX7_form_X7 rfl rfl (by decide) (List.mem_of_getElem? (i := 1) rfl) rfl rfl dX7_form_168 ?_
    refine v_iconst X dX7_form_171 (v := (1 : Int32)) (by decide) ?_
    refine v_iadd X dX7_form_172 ?_
    refine v_put X (ws' := (cl_X7_form T o_p0 a_p0 s_p0_finding s_p0_asked (s_p0_newPoints + (1 : Int32)) s_p0_newLines s_p0_faultAt s_p0_tries s_p0_things s_p0_goals s_p0_level s_p0_kinds (upd (upd (upd (upd s_p0_letters (((4 : Int32) * s_p0_newPoints)).toNatClampNeg x_4) ((((4 : Int32) * s_p0_newPoints) + (1 : Int32))).toNatClampNeg x_5) ((((4 : Int32) * s_p0_newPoints) + (2 : Int32))).toNatClampNeg x_6) ((((4 : Int32) * s_p0_newPoints) + (3 : Int32))).toNatClampNeg (vrem x_3 x_2)) s_p0_lineCount s_p0_lines s_p0_marks s_p0_newRow s_p0_points)) 0 8 (F := TX7) (N := 33) iX7_form_X7 rfl tyX7 tyX7_ok nmX7 rfl (by decide) (List.mem_of_getElem? (i := 1) rfl) rfl rfl rfl rfl rfl (Nat.le_of_ble_eq_true rfl) rfl dX7_form_173 ?_
    refine v_lv (lv' := [(0, .ref o_p0), (1, .int x_1), (2, .int x_2), (3, .int x_3)]) [1, 2, 3, 4] rfl ?_
    exact k_X7_form_176 X r hK_30 h
set_option maxHeartbeats 4000000 in
set_option maxRecDepth 100000 in
theorem k_X7_form_30 {E : vE} {T : Nat → ClassId} {o_p0 : Nat} {a_p0 : Nat → Nat} {s_p0_finding : Int32} {s_p0_asked : Int64} {s_p0_newLines : Int32} {s_p0_faultAt : Int64} {s_p0_tries : Int32} {s_p0_things : Int32} {s_p0_goals : Int32} {s_p0_level : Int32} {s_p0_kinds : Nat → Int32} {s_p0_lineCount : Nat → Int32} {s_p0_lines : Nat → Int64} {s_p0_marks : Nat → Int32} {s_p0_newRow : Nat → Int64} {s_p0_points : Nat → Int32} {x_1 : Int32} {x_2 : Int32} {Q : Int32 → (Int32) → (Int32) → (Nat → Int32) → (Nat → Int32) → (Nat → Int32) → (Nat → Int64) → (Nat → Int32) → (Nat → Int64) → (Nat → Int32) → Prop} (X : vX E cX7_form 8 RX7 wsX7_form (vT T) (vr 2 42)) (r : r_X7_form E T o_p0 a_p0 s_p0_finding s_p0_asked s_p0_faultAt s_p0_tries s_p0_things s_p0_goals s_p0_level Q) : ∀ (n_ : Nat) (x_3 : Int32) (s_p0_newPoints : Int32) (s_p0_letters : Nat → Int32), w_X7_form_30 x_1 x_2 s_p0_newLines s_p0_kinds s_p0_lineCount s_p0_lines s_p0_marks s_p0_newRow s_p0_points Q n_ x_3 s_p0_newPoints s_p0_letters → V E 0 0 30 [(0, .ref o_p0), (1, .int x_1), (2, .int x_2), (3, .int x_3)] [] (cl_X7_form T o_p0 a_p0 s_p0_finding s_p0_asked s_p0_newPoints s_p0_newLines s_p0_faultAt s_p0_tries s_p0_things s_p0_goals s_p0_level s_p0_kinds s_p0_letters s_p0_lineCount s_p0_lines s_p0_marks s_p0_newRow s_p0_points) := by
  intro n_
  induction n_ with
  | zero => intro x_3 s_p0_newPoints s_p0_letters h; exact h.elim
  | succ n_ hK_30 =>
    intro x_3 s_p0_newPoints s_p0_letters h
    replace h : w_X7_form_30s x_1 x_2 s_p0_newLines s_p0_kinds s_p0_lineCount s_p0_lines s_p0_marks s_p0_newRow s_p0_points Q (w_X7_form_30 x_1 x_2 s_p0_newLines s_p0_kinds s_p0_lineCount s_p0_lines s_p0_marks s_p0_newRow s_p0_points Q n_) x_3 s_p0_newPoints s_p0_letters := h
    unfold w_X7_form_30s at h
    refine v_iload_n X 3 dX7_form_30 rfl rfl ?_
    refine v_iload_n X 2 dX7_form_31 rfl rfl ?_
    refine v_iload_n X 2 dX7_form_32 rfl rfl ?_
    refine v_imul X dX7_form_33 ?_
    refine v_iload_n X 2 dX7_form_34 rfl rfl ?_
    refine v_imul X dX7_form_35 ?_
    refine v_iload_n X 2 dX7_form_36 rfl rfl ?_
    refine v_imul X dX7_form_37 ?_
    refine v_icmp_ge X (tgt := 182) dX7_form_38 (by decide) (fun c_38 => ?_) (fun c_38 => ?_)
    · replace h := h.1 c_38
      refine v_iconst X dX7_form_182 (v := (0 : Int32)) (by decide) ?_
      refine v_istore_n X (lv' := [(3, .int (0 : Int32)), (0, .ref o_p0), (1, .int x_1), (2, .int x_2)]) dX7_form_183 rfl (by decide) rfl ?_
      refine v_lv (lv' := [(0, .ref o_p0), (1, .int x_1), (2, .int x_2), (3, .int (0 : Int32))]) [1, 2, 3, 0] rfl ?_
      obtain ⟨n_, h⟩ := h
      exact k_X7_form_184 X r n_ _ _ _ h
    · replace h := h.2 c_38
      refine v_iload_n X 3 dX7_form_41 rfl rfl ?_
      refine v_iload_n X 2 dX7_form_42 rfl rfl ?_
      refine v_iload_n X 2 dX7_form_43 rfl rfl ?_
      refine v_imul X dX7_form_44 ?_
      refine v_iload_n X 2 dX7_form_45 rfl rfl ?_
      refine v_imul X dX7_form_46 ?_
      refine v_idiv X dX7_form_47 h.1 ?_
      replace h := h.2
      refine v_istore X (lv' := [(4, .int (x_3 / ((x_2 * x_2) * x_2))), (0, .ref o_p0), (1, .int x_1), (2, .int x_2), (3, .int x_3)]) dX7_form_48 (by decide) rfl ?_
      refine v_iload_n X 4 dX7_form_50 rfl rfl ?_
      refine v_iload_n X 3 dX7_form_51 rfl rfl ?_
      refine v_iload_n X 3 dX7_form_52 rfl rfl ?_
      refine v_imul X dX7_form_53 ?_
      refine v_idiv X dX7_form_54 h.1 ?_
      replace h := h.2
      refine v_iload_n X 3 dX7_form_55 rfl rfl ?_
      refine v_irem X dX7_form_56 h.1 ?_
      replace h := h.2
      refine v_istore X (lv' := [(5, .int (vrem (x_3 / (x_2 * x_2)) x_2)), (4, .int (x_3 / ((x_2 * x_2) * x_2))), (0, .ref o_p0), (1, .int x_1), (2, .int x_2), (3, .int x_3)]) dX7_form_57 (by decide) rfl ?_
      refine v_iload_n X 5 dX7_form_59 rfl rfl ?_
      refine v_iload_n X 4 dX7_form_60 rfl rfl ?_
      refine v_idiv X dX7_form_61 h.1 ?_
      replace h := h.2
      refine v_iload_n X 4 dX7_form_62 rfl rfl ?_
      refine v_irem X dX7_form_63 h.1 ?_
      replace h := h.2
      refine v_istore X (lv' := [(6, .int (vrem (x_3 / x_2) x_2)), (5, .int (vrem (x_3 / (x_2 * x_2)) x_2)), (4, .int (x_3 / ((x_2 * x_2) * x_2))), (0, .ref o_p0), (1, .int x_1), (2, .int x_2), (3, .int x_3)]) dX7_form_64 (by decide) rfl ?_
      refine v_iload X 2 dX7_form_66 rfl ?_
      refine v_if_le X (tgt := 76) dX7_form_68 (by decide) (fun c_68 => ?_) (fun c_68 => ?_)
      · replace h := h.1 c_68
        refine v_iload X 1 dX7_form_76 rfl ?_
        refine v_if_le X (tgt := 86) dX7_form_78 (by decide) (fun c_78 => ?_) (fun c_78 => ?_)
        · replace h := h.1 c_78
          refine v_iload X 0 dX7_form_86 rfl ?_
          refine v_if_le X (tgt := 96) dX7_form_88 (by decide) (fun c_88 => ?_) (fun c_88 => ?_)
          · replace h := h.1 c_88
            refine v_iload_n X 6 dX7_form_96 rfl rfl ?_
            refine v_iload_n X 5 dX7_form_97 rfl rfl ?_
            refine v_irem X dX7_form_98 h.1 ?_
            replace h := h.2
            refine v_lv (lv' := [(0, .ref o_p0), (1, .int x_1), (2, .int x_2), (3, .int x_3), (4, .int (x_3 / ((x_2 * x_2) * x_2))), (5, .int (vrem (x_3 / (x_2 * x_2)) x_2)), (6, .int (vrem (x_3 / x_2) x_2))]) [3, 4, 5, 6, 2, 1, 0] rfl ?_
            exact k_X7_form_99 X r hK_30 h
          · replace h := h.2 c_88
            refine v_iload X 0 dX7_form_91 rfl ?_
            refine v_goto X (tgt := 99) dX7_form_93 (by decide) ?_
            refine v_lv (lv' := [(0, .ref o_p0), (1, .int x_1), (2, .int x_2), (3, .int x_3), (4, .int (x_3 / ((x_2 * x_2) * x_2))), (5, .int (vrem (x_3 / (x_2 * x_2)) x_2)), (6, .int (vrem (x_3 / x_2) x_2))]) [3, 4, 5, 6, 2, 1, 0] rfl ?_
            exact k_X7_form_99 X r hK_30 h
        · replace h := h.2 c_78
          refine v_iload X 1 dX7_form_81 rfl ?_
          refine v_goto X (tgt := 99) dX7_form_83 (by decide) ?_
          refine v_lv (lv' := [(0, .ref o_p0), (1, .int x_1), (2, .int x_2), (3, .int x_3), (4, .int (x_3 / ((x_2 * x_2) * x_2))), (5, .int (vrem (x_3 / (x_2 * x_2)) x_2)), (6, .int (vrem (x_3 / x_2) x_2))]) [3, 4, 5, 6, 2, 1, 0] rfl ?_
          exact k_X7_form_99 X r hK_30 h
      · replace h := h.2 c_68
        refine v_iload X 2 dX7_form_71 rfl ?_
        refine v_goto X (tgt := 99) dX7_form_73 (by decide) ?_
        refine v_lv (lv' := [(0, .ref o_p0), (1, .int x_1), (2, .int x_2), (3, .int x_3), (4, .int (x_3 / ((x_2 * x_2) * x_2))), (5, .int (vrem (x_3 / (x_2 * x_2)) x_2)), (6, .int (vrem (x_3 / x_2) x_2))]) [3, 4, 5, 6, 2, 1, 0] rfl ?_
        exact k_X7_form_99 X r hK_30 h
set_option maxHeartbeats 4000000 in
set_option maxRecDepth 100000 in
theorem k_X7_form_16 {E : vE} {T : Nat → ClassId} {o_p0 : Nat} {a_p0 : Nat → Nat} {s_p0_finding : Int32} {s_p0_asked : Int64} {s_p0_newPoints : Int32} {s_p0_newLines : Int32} {s_p0_faultAt : Int64} {s_p0_tries : Int32} {s_p0_things : Int32} {s_p0_goals : Int32} {s_p0_level : Int32} {s_p0_kinds : Nat → Int32} {s_p0_letters : Nat → Int32} {s_p0_lineCount : Nat → Int32} {s_p0_lines : Nat → Int64} {s_p0_marks : Nat → Int32} {s_p0_newRow : Nat → Int64} {s_p0_points : Nat → Int32} {Q : Int32 → (Int32) → (Int32) → (Nat → Int32) → (Nat → Int32) → (Nat → Int32) → (Nat → Int64) → (Nat → Int32) → (Nat → Int64) → (Nat → Int32) → Prop} (X : vX E cX7_form 8 RX7 wsX7_form (vT T) (vr 2 42)) (r : r_X7_form E T o_p0 a_p0 s_p0_finding s_p0_asked s_p0_faultAt s_p0_tries s_p0_things s_p0_goals s_p0_level Q) (h : w_X7_form_16 s_p0_newPoints s_p0_newLines s_p0_kinds s_p0_letters s_p0_lineCount s_p0_lines s_p0_marks s_p0_newRow s_p0_points Q) : V E 0 0 16 [] [] (cl_X7_form T o_p0 a_p0 s_p0_finding s_p0_asked s_p0_newPoints s_p0_newLines s_p0_faultAt s_p0_tries s_p0_things s_p0_goals s_p0_level s_p0_kinds s_p0_letters s_p0_lineCount s_p0_lines s_p0_marks s_p0_newRow s_p0_points) := by
  unfold w_X7_form_16 at h
  refine v_iconst X dX7_form_16 (v := (-1 : Int32)) (by decide) ?_
  exact r _ _ _ (s_p0_newPoints, s_p0_newLines, s_p0_kinds, s_p0_letters, s_p0_lineCount, s_p0_lines, s_p0_marks, s_p0_newRow, s_p0_points) _ dX7_form_17 h rfl
set_option maxHeartbeats 4000000 in
set_option maxRecDepth 100000 in
theorem c_X7_form {l : Launch} {D : va_G} {T : Nat → ClassId} {o_p0 : Nat} {a_p0 : Nat → Nat} {s_p0_finding : Int32} {s_p0_asked : Int64} {s_p0_newPoints : Int32} {s_p0_newLines : Int32} {s_p0_faultAt : Int64} {s_p0_tries : Int32} {s_p0_things : Int32} {s_p0_goals : Int32} {s_p0_level : Int32} {s_p0_kinds : Nat → Int32} {s_p0_letters : Nat → Int32} {s_p0_lineCount : Nat → Int32} {s_p0_lines : Nat → Int64} {s_p0_marks : Nat → Int32} {s_p0_newRow : Nat → Int64} {s_p0_points : Nat → Int32} {x_1 : Int32} {x_2 : Int32} {Q : Int32 → (Int32) → (Int32) → (Nat → Int32) → (Nat → Int32) → (Nat → Int32) → (Nat → Int64) → (Nat → Int32) → (Nat → Int64) → (Nat → Int32) → Prop} (h : w_X7_form x_1 x_2 s_p0_newPoints s_p0_newLines s_p0_kinds s_p0_letters s_p0_lineCount s_p0_lines s_p0_marks s_p0_newRow s_p0_points Q) : vCi l D (vT T) yX7_form wsX7_form (vr 2 42) [.ref o_p0, .int x_1, .int x_2] (cl_X7_form T o_p0 a_p0 s_p0_finding s_p0_asked s_p0_newPoints s_p0_newLines s_p0_faultAt s_p0_tries s_p0_things s_p0_goals s_p0_level s_p0_kinds s_p0_letters s_p0_lineCount s_p0_lines s_p0_marks s_p0_newRow s_p0_points) (fun v (u : (Int32) × (Int32) × (Nat → Int32) × (Nat → Int32) × (Nat → Int32) × (Nat → Int64) × (Nat → Int32) × (Nat → Int64) × (Nat → Int32)) => Q v u.1 u.2.1 u.2.2.1 u.2.2.2.1 u.2.2.2.2.1 u.2.2.2.2.2.1 u.2.2.2.2.2.2.1 u.2.2.2.2.2.2.2.1 u.2.2.2.2.2.2.2.2) (fun (u : (Int32) × (Int32) × (Nat → Int32) × (Nat → Int32) × (Nat → Int32) × (Nat → Int64) × (Nat → Int32) × (Nat → Int64) × (Nat → Int32)) => (cl_X7_form T o_p0 a_p0 s_p0_finding s_p0_asked u.1 u.2.1 s_p0_faultAt s_p0_tries s_p0_things s_p0_goals s_p0_level u.2.2.1 u.2.2.2.1 u.2.2.2.2.1 u.2.2.2.2.2.1 u.2.2.2.2.2.2.1 u.2.2.2.2.2.2.2.1 u.2.2.2.2.2.2.2.2)) := by
  refine vC_i (cc := cX7_form) (nL := 8) (by decide +kernel) rfl ⟨rfl, rfl⟩ (Nat.le_of_ble_eq_true rfl) rfl ?_
  intro E el eD X r
  unfold w_X7_form at h
  refine v_iload_n X 1 dX7_form_0 rfl rfl ?_
  refine v_callSi0 X (As := [.int x_1]) (rest := []) 1 (c_X7_isNumber (l := vl E) (D := vD E) (T := T) (x_0 := x_1) h) gX7_form_X7_isNumber rfl rfl (by decide +kernel) ⟨Nat.zero_le _, Nat.zero_le _⟩ ⟨rfl, rfl, by decide, by decide⟩ (Nat.le_of_ble_eq_true rfl) rfl dX7_form_1 (fun r_1 h => ?_)
  refine v_if_eq X (tgt := 16) dX7_form_4 (by decide) (fun c_4 => ?_) (fun c_4 => ?_)
  · replace h := h.1 c_4
    refine v_lv (lv' := []) [] rfl ?_
    exact k_X7_form_16 X r h
  · replace h := h.2 c_4
    refine v_iload_n X 2 dX7_form_7 rfl rfl ?_
    refine v_iconst X dX7_form_8 (v := (2 : Int32)) (by decide) ?_
    refine v_iconst X dX7_form_9 (v := (3 : Int32)) (by decide) ?_
    refine v_callSi0 X (As := [.int x_2, .int (2 : Int32), .int (3 : Int32)]) (rest := []) 3 (c_X7_in (l := vl E) (D := vD E) (T := T) (x_0 := x_2) (x_1 := (2 : Int32)) (x_2 := (3 : Int32)) h) gX7_form_X7_in rfl rfl (by decide +kernel) ⟨Nat.zero_le _, Nat.zero_le _⟩ ⟨rfl, rfl, by decide, by decide⟩ (Nat.le_of_ble_eq_true rfl) rfl dX7_form_10 (fun r_10 h => ?_)
    refine v_if_ne X (tgt := 18) dX7_form_13 (by decide) (fun c_13 => ?_) (fun c_13 => ?_)
    · replace h := h.1 c_13
      refine v_aload_n X 0 dX7_form_18 rfl rfl ?_
      refine v_iconst X dX7_form_19 (v := (0 : Int32)) (by decide) ?_
      refine v_put X (ws' := (cl_X7_form T o_p0 a_p0 s_p0_finding s_p0_asked (0 : Int32) s_p0_newLines s_p0_faultAt s_p0_tries s_p0_things s_p0_goals s_p0_level s_p0_kinds s_p0_letters s_p0_lineCount s_p0_lines s_p0_marks s_p0_newRow s_p0_points)) 0 8 (F := TX7) (N := 33) iX7_form_X7 rfl tyX7 tyX7_ok nmX7 rfl (by decide) (List.mem_of_getElem? (i := 1) rfl) rfl rfl rfl rfl rfl (Nat.le_of_ble_eq_true rfl) rfl dX7_form_20 ?_
      refine v_aload_n X 0 dX7_form_23 rfl rfl ?_
      refine v_iconst X dX7_form_24 (v := (0 : Int32)) (by decide) ?_
      refine v_put X (ws' := (cl_X7_form T o_p0 a_p0 s_p0_finding s_p0_asked (0 : Int32) (0 : Int32) s_p0_faultAt s_p0_tries s_p0_things s_p0_goals s_p0_level s_p0_kinds s_p0_letters s_p0_lineCount s_p0_lines s_p0_marks s_p0_newRow s_p0_points)) 0 9 (F := TX7) (N := 33) iX7_form_X7 rfl tyX7 tyX7_ok nmX7 rfl (by decide) (List.mem_of_getElem? (i := 2) rfl) rfl rfl rfl rfl rfl (Nat.le_of_ble_eq_true rfl) rfl dX7_form_25 ?_
      refine v_iconst X dX7_form_28 (v := (1 : Int32)) (by decide) ?_
      refine v_istore_n X (lv' := [(3, .int (1 : Int32)), (0, .ref o_p0), (1, .int x_1), (2, .int x_2)]) dX7_form_29 rfl (by decide) rfl ?_
      refine v_lv (lv' := [(0, .ref o_p0), (1, .int x_1), (2, .int x_2), (3, .int (1 : Int32))]) [1, 2, 3, 0] rfl ?_
      obtain ⟨n_, h⟩ := h
      exact k_X7_form_30 X r n_ _ _ _ h
    · replace h := h.2 c_13
      refine v_lv (lv' := []) [] rfl ?_
      exact k_X7_form_16 X r h
-- X7_through
abbrev cl_X7_through (T : Nat → ClassId) (o_p0 : Nat) (a_p0 : Nat → Nat) (s_p0_finding : Int32) (s_p0_asked : Int64) (s_p0_newPoints : Int32) (s_p0_newLines : Int32) (s_p0_faultAt : Int64) (s_p0_tries : Int32) (s_p0_things : Int32) (s_p0_goals : Int32) (s_p0_level : Int32) (s_p0_lineCount : Nat → Int32) (s_p0_lines : Nat → Int64) : va_W := [vO o_p0 4 [.int s_p0_finding, .ref (a_p0 1), .long s_p0_asked, .ref (a_p0 3), .ref (a_p0 4), .ref (a_p0 5), .ref (a_p0 6), .ref (a_p0 7), .int s_p0_newPoints, .int s_p0_newLines, .ref (a_p0 10), .ref (a_p0 11), .long s_p0_faultAt, .int s_p0_tries, .int s_p0_things, .int s_p0_goals, .ref (a_p0 16), .ref (a_p0 17), .ref (a_p0 18), .ref (a_p0 19), .ref (a_p0 20), .ref (a_p0 21), .int s_p0_level, .ref (a_p0 23), .ref (a_p0 24), .ref (a_p0 25), .ref (a_p0 26), .ref (a_p0 27), .ref (a_p0 28), .ref (a_p0 29), .ref (a_p0 30), .ref (a_p0 31), .ref (a_p0 32)], vI T (a_p0 4) 6 s_p0_lineCount, vJ T (a_p0 7) 270 s_p0_lines]
abbrev r_X7_through (E : vE) (T : Nat → ClassId) (o_p0 : Nat) (a_p0 : Nat → Nat) (s_p0_finding : Int32) (s_p0_asked : Int64) (s_p0_newPoints : Int32) (s_p0_newLines : Int32) (s_p0_faultAt : Int64) (s_p0_tries : Int32) (s_p0_things : Int32) (s_p0_goals : Int32) (s_p0_level : Int32) (s_p0_lineCount : Nat → Int32) (s_p0_lines : Nat → Int64) (Q : Int64 → Prop) : Prop := vRl E cX7_through (fun v (u : Unit) => Q v) (fun (u : Unit) => (cl_X7_through T o_p0 a_p0 s_p0_finding s_p0_asked s_p0_newPoints s_p0_newLines s_p0_faultAt s_p0_tries s_p0_things s_p0_goals s_p0_level s_p0_lineCount s_p0_lines))
def w_X7_through_44 (x_1 : Int32) (x_2 : Int32) (x_5 : Int32) (t_0 : Int64) (t_1 : Int64) (s_p0_lineCount : Nat → Int32) (s_p0_lines : Nat → Int64) (K_5 : (Int64) → (Int32) → Prop) (Q : Int64 → Prop) : Prop := (K_5 (t_0 ||| t_1) (x_5 + (1 : Int32)))
def w_X7_through_5s (x_1 : Int32) (x_2 : Int32) (s_p0_lineCount : Nat → Int32) (s_p0_lines : Nat → Int64) (Q : Int64 → Prop) (K_5 : (Int64) → (Int32) → Prop) (x_3 : Int64) (x_5 : Int32) : Prop := (vp_in x_1 6 ∧ (((s_p0_lineCount (x_1).toNatClampNeg) ≤ x_5 → (Q x_3)) ∧ (¬ (s_p0_lineCount (x_1).toNatClampNeg) ≤ x_5 → (vp_in (((45 : Int32) * x_1) + x_5) 270 ∧ (w_X7_has (s_p0_lines ((((45 : Int32) * x_1) + x_5)).toNatClampNeg) x_2 (fun (r_30 : Int32) => ((r_30 = 0 → (w_X7_through_44 x_1 x_2 x_5 x_3 (0 : Int64) s_p0_lineCount s_p0_lines K_5 Q)) ∧ (¬ r_30 = 0 → (w_X7_through_44 x_1 x_2 x_5 x_3 (vshl (1 : Int64) x_5) s_p0_lineCount s_p0_lines K_5 Q)))))))))
def w_X7_through_5 (x_1 : Int32) (x_2 : Int32) (s_p0_lineCount : Nat → Int32) (s_p0_lines : Nat → Int64) (Q : Int64 → Prop) : Nat → (Int64) → (Int32) → Prop
  | 0 => fun _ _ => False
  | n_ + 1 => w_X7_through_5s x_1 x_2 s_p0_lineCount s_p0_lines Q (w_X7_through_5 x_1 x_2 s_p0_lineCount s_p0_lines Q n_)
def w_X7_through (x_1 : Int32) (x_2 : Int32) (s_p0_lineCount : Nat → Int32) (s_p0_lines : Nat → Int64) (Q : Int64 → Prop) : Prop := (∃ n_, w_X7_through_5 x_1 x_2 s_p0_lineCount s_p0_lines Q n_ (0 : Int64) (0 : Int32))
-- X7_through
theorem iX7_through_X7 : ∀ w ∈ wsX70, w ∈ wsX7_through := by decide +kernel
set_option maxHeartbeats 4000000 in
set_option maxRecDepth 100000 in
theorem k_X7_through_44 {E : vE} {T : Nat → ClassId} {o_p0 : Nat} {a_p0 : Nat → Nat} {s_p0_finding : Int32} {s_p0_asked : Int64} {s_p0_newPoints : Int32} {s_p0_newLines : Int32} {s_p0_faultAt : Int64} {s_p0_tries : Int32} {s_p0_things : Int32} {s_p0_goals : Int32} {s_p0_level : Int32} {s_p0_lineCount : Nat → Int32} {s_p0_lines : Nat → Int64} {x_1 : Int32} {x_2 : Int32} {x_5 : Int32} {t_0 : Int64} {t_1 : Int64} {K_5 : (Int64) → (Int32) → Prop} {Q : Int64 → Prop} (X : vX E cX7_through 6 RX7 wsX7_through (vT T) (vr 1 22)) (r : r_X7_through E T o_p0 a_p0 s_p0_finding s_p0_asked s_p0_newPoints s_p0_newLines s_p0_faultAt s_p0_tries s_p0_things s_p0_goals s_p0_level s_p0_lineCount s_p0_lines Q) (hK_5 : ∀ (x_3' : Int64) (x_5' : Int32), K_5 x_3' x_5' → V E 0 0 5 [(0, .ref o_p0), (1, .int x_1), (2, .int x_2), (3, .long x_3'), (5, .int x_5')] [] (cl_X7_through T o_p0 a_p0 s_p0_finding s_p0_asked s_p0_newPoints s_p0_newLines s_p0_faultAt s_p0_tries s_p0_things s_p0_goals s_p0_level s_p0_lineCount s_p0_lines)) (h : w_X7_through_44 x_1 x_2 x_5 t_0 t_1 s_p0_lineCount s_p0_lines K_5 Q) : V E 0 0 44 [(0, .ref o_p0), (1, .int x_1), (2, .int x_2), (5, .int x_5)] [.long t_1, .long t_0] (cl_X7_through T o_p0 a_p0 s_p0_finding s_p0_asked s_p0_newPoints s_p0_newLines s_p0_faultAt s_p0_tries s_p0_things s_p0_goals s_p0_level s_p0_lineCount s_p0_lines) := by
  unfold w_X7_through_44 at h
  refine v_lor X dX7_through_44 ?_
  refine v_lstore_n X (lv' := [(3, .long (t_0 ||| t_1)), (0, .ref o_p0), (1, .int x_1), (2, .int x_2), (5, .int x_5)]) dX7_through_45 rfl (by decide) rfl ?_
  refine v_iinc X (v := (x_5 + (1 : Int32))) (lv' := [(5, .int (x_5 + (1 : Int32))), (3, .long (t_0 ||| t_1)), (0, .ref o_p0), (1, .int x_1), (2, .int x_2)]) 4 dX7_through_46 rfl rfl (by decide) rfl ?_
  refine v_goto X (tgt := 5) dX7_through_49 (by decide) ?_
  refine v_lv (lv' := [(0, .ref o_p0), (1, .int x_1), (2, .int x_2), (3, .long (t_0 ||| t_1)), (5, .int (x_5 + (1 : Int32)))]) [2, 3, 4, 1, 0] rfl ?_
  exact hK_5 _ _ h
set_option maxHeartbeats 4000000 in
set_option maxRecDepth 100000 in
theorem k_X7_through_5 {E : vE} {T : Nat → ClassId} {o_p0 : Nat} {a_p0 : Nat → Nat} {s_p0_finding : Int32} {s_p0_asked : Int64} {s_p0_newPoints : Int32} {s_p0_newLines : Int32} {s_p0_faultAt : Int64} {s_p0_tries : Int32} {s_p0_things : Int32} {s_p0_goals : Int32} {s_p0_level : Int32} {s_p0_lineCount : Nat → Int32} {s_p0_lines : Nat → Int64} {x_1 : Int32} {x_2 : Int32} {Q : Int64 → Prop} (X : vX E cX7_through 6 RX7 wsX7_through (vT T) (vr 1 22)) (r : r_X7_through E T o_p0 a_p0 s_p0_finding s_p0_asked s_p0_newPoints s_p0_newLines s_p0_faultAt s_p0_tries s_p0_things s_p0_goals s_p0_level s_p0_lineCount s_p0_lines Q) : ∀ (n_ : Nat) (x_3 : Int64) (x_5 : Int32), w_X7_through_5 x_1 x_2 s_p0_lineCount s_p0_lines Q n_ x_3 x_5 → V E 0 0 5 [(0, .ref o_p0), (1, .int x_1), (2, .int x_2), (3, .long x_3), (5, .int x_5)] [] (cl_X7_through T o_p0 a_p0 s_p0_finding s_p0_asked s_p0_newPoints s_p0_newLines s_p0_faultAt s_p0_tries s_p0_things s_p0_goals s_p0_level s_p0_lineCount s_p0_lines) := by
  intro n_
  induction n_ with
  | zero => intro x_3 x_5 h; exact h.elim
  | succ n_ hK_5 =>
    intro x_3 x_5 h
    replace h : w_X7_through_5s x_1 x_2 s_p0_lineCount s_p0_lines Q (w_X7_through_5 x_1 x_2 s_p0_lineCount s_p0_lines Q n_) x_3 x_5 := h
    unfold w_X7_through_5s at h
    refine v_iload X 4 dX7_through_5 rfl ?_
    refine v_aload_n X 0 dX7_through_7 rfl rfl ?_
    refine v_get X 0 4 (F := TX7) (N := 33) iX7_through_X7 rfl rfl (by decide) (List.mem_of_getElem? (i := 1) rfl) rfl rfl dX7_through_8 ?_
    refine v_iload_n X 1 dX7_through_11 rfl rfl ?_
    refine v_iald X 1 0 rfl rfl h.1 dX7_through_12 ?_
    replace h := h.2
    refine v_icmp_ge X (tgt := 52) dX7_through_13 (by decide) (fun c_13 => ?_) (fun c_13 => ?_)
    · replace h := h.1 c_13
      refine v_lload_n X 3 dX7_through_52 rfl rfl ?_
      exact r _ _ _ () _ dX7_through_53 h rfl
    · replace h := h.2 c_13
      refine v_lload_n X 3 dX7_through_16 rfl rfl ?_
      refine v_aload_n X 0 dX7_through_17 rfl rfl ?_
      refine v_get X 0 7 (F := TX7) (N := 33) iX7_through_X7 rfl rfl (by decide) (List.mem_of_getElem? (i := 2) rfl) rfl rfl dX7_through_18 ?_
      refine v_bipush X dX7_through_21 (v := (45 : Int32)) (by decide) ?_
      refine v_iload_n X 1 dX7_through_23 rfl rfl ?_
      refine v_imul X dX7_through_24 ?_
      refine v_iload X 4 dX7_through_25 rfl ?_
      refine v_iadd X dX7_through_27 ?_
      refine v_lald X 2 1 rfl rfl h.1 dX7_through_28 ?_
      replace h := h.2
      refine v_iload_n X 2 dX7_through_29 rfl rfl ?_
      refine v_callSi0 X (As := [.long (s_p0_lines ((((45 : Int32) * x_1) + x_5)).toNatClampNeg), .int x_2]) (rest := [.long x_3]) 2 (c_X7_has (l := vl E) (D := vD E) (T := T) (x_0 := (s_p0_lines ((((45 : Int32) * x_1) + x_5)).toNatClampNeg)) (x_2 := x_2) h) gX7_through_X7_has rfl rfl (by decide +kernel) ⟨Nat.zero_le _, Nat.zero_le _⟩ ⟨rfl, rfl, by decide, by decide⟩ (Nat.le_of_ble_eq_true rfl) rfl dX7_through_30 (fun r_30 h => ?_)
      refine v_if_eq X (tgt := 43) dX7_through_33 (by decide) (fun c_33 => ?_) (fun c_33 => ?_)
      · replace h := h.1 c_33
        refine v_lconst X dX7_through_43 (v := (0 : Int64)) (by decide) ?_
        refine v_lv (lv' := [(0, .ref o_p0), (1, .int x_1), (2, .int x_2), (5, .int x_5)]) [0, 1, 2, 4] rfl ?_
        exact k_X7_through_44 X r hK_5 h
      · replace h := h.2 c_33
        refine v_lconst X dX7_through_36 (v := (1 : Int64)) (by decide) ?_
        refine v_iload X 4 dX7_through_37 rfl ?_
        refine v_lshl X dX7_through_39 ?_
        refine v_goto X (tgt := 44) dX7_through_40 (by decide) ?_
        refine v_lv (lv' := [(0, .ref o_p0), (1, .int x_1), (2, .int x_2), (5, .int x_5)]) [0, 1, 2, 4] rfl ?_
        exact k_X7_through_44 X r hK_5 h
set_option maxHeartbeats 4000000 in
set_option maxRecDepth 100000 in
theorem c_X7_through {l : Launch} {D : va_G} {T : Nat → ClassId} {o_p0 : Nat} {a_p0 : Nat → Nat} {s_p0_finding : Int32} {s_p0_asked : Int64} {s_p0_newPoints : Int32} {s_p0_newLines : Int32} {s_p0_faultAt : Int64} {s_p0_tries : Int32} {s_p0_things : Int32} {s_p0_goals : Int32} {s_p0_level : Int32} {s_p0_lineCount : Nat → Int32} {s_p0_lines : Nat → Int64} {x_1 : Int32} {x_2 : Int32} {Q : Int64 → Prop} (h : w_X7_through x_1 x_2 s_p0_lineCount s_p0_lines Q) : vCl l D (vT T) yX7_through wsX7_through (vr 1 22) [.ref o_p0, .int x_1, .int x_2] (cl_X7_through T o_p0 a_p0 s_p0_finding s_p0_asked s_p0_newPoints s_p0_newLines s_p0_faultAt s_p0_tries s_p0_things s_p0_goals s_p0_level s_p0_lineCount s_p0_lines) (fun v (u : Unit) => Q v) (fun (u : Unit) => (cl_X7_through T o_p0 a_p0 s_p0_finding s_p0_asked s_p0_newPoints s_p0_newLines s_p0_faultAt s_p0_tries s_p0_things s_p0_goals s_p0_level s_p0_lineCount s_p0_lines)) := by
  refine vC_l (cc := cX7_through) (nL := 6) (by decide +kernel) rfl ⟨rfl, rfl⟩ (Nat.le_of_ble_eq_true rfl) rfl ?_
  intro E el eD X r
  unfold w_X7_through at h
  refine v_lconst X dX7_through_0 (v := (0 : Int64)) (by decide) ?_
  refine v_lstore_n X (lv' := [(3, .long (0 : Int64)), (0, .ref o_p0), (1, .int x_1), (2, .int x_2)]) dX7_through_1 rfl (by decide) rfl ?_
  refine v_iconst X dX7_through_2 (v := (0 : Int32)) (by decide) ?_
  refine v_istore X (lv' := [(5, .int (0 : Int32)), (3, .long (0 : Int64)), (0, .ref o_p0), (1, .int x_1), (2, .int x_2)]) dX7_through_3 (by decide) rfl ?_
  refine v_lv (lv' := [(0, .ref o_p0), (1, .int x_1), (2, .int x_2), (3, .long (0 : Int64)), (5, .int (0 : Int32))]) [2, 3, 4, 1, 0] rfl ?_
  obtain ⟨n_, h⟩ := h
  exact k_X7_through_5 X r n_ _ _ h