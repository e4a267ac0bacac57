-- X6_firstFound
abbrev cl_X6_firstFound (T : Nat → ClassId) (o_p0 : Nat) (a_p0 : Nat → Nat) (o_S : Nat) (a_p0_seeker : Nat → Nat) (s_p0_sentSize : Int32) (s_p0_latestFinding : Int32) (s_p0_latestTries : Int32) (s_p0_latestAsked : Int64) (s_p0_seeker_allMet : Int64) (s_p0_seeker_depth : Int32) (s_p0_seeker_tryCount : Int32) (s_p0_seeker_isSpent : Int32) (s_p0_seeker_foundCount : Int32) (s_p0_seeker_foundSet : Int64) : va_W := [vO o_p0 3 [.ref (a_p0 0), .ref (a_p0 1), .ref (a_p0 2), .ref (a_p0 3), .ref (a_p0 4), .ref (a_p0 5), .ref (a_p0 6), .ref (a_p0 7), .ref o_S, .int s_p0_sentSize, .int s_p0_latestFinding, .int s_p0_latestTries, .long s_p0_latestAsked], vO (a_p0 6) 1 [.ref (a_p0_seeker 0), .ref (a_p0_seeker 1), .ref (a_p0_seeker 2), .long s_p0_seeker_allMet, .int s_p0_seeker_depth, .int s_p0_seeker_tryCount, .int s_p0_seeker_isSpent, .int s_p0_seeker_foundCount, .long s_p0_seeker_foundSet]]
abbrev r_X6_firstFound (E : vE) (T : Nat → ClassId) (o_p0 : Nat) (a_p0 : Nat → Nat) (o_S : Nat) (a_p0_seeker : Nat → Nat) (s_p0_sentSize : Int32) (s_p0_latestFinding : Int32) (s_p0_seeker_allMet : Int64) (s_p0_seeker_depth : Int32) (s_p0_seeker_tryCount : Int32) (s_p0_seeker_isSpent : Int32) (s_p0_seeker_foundCount : Int32) (s_p0_seeker_foundSet : Int64) (Q : Int32 → (Int32) → (Int64) → Prop) : Prop := vRi E cX6_firstFound (fun v (u : (Int32) × (Int64)) => Q v u.1 u.2) (fun (u : (Int32) × (Int64)) => (cl_X6_firstFound T o_p0 a_p0 o_S a_p0_seeker s_p0_sentSize s_p0_latestFinding u.1 u.2 s_p0_seeker_allMet s_p0_seeker_depth s_p0_seeker_tryCount s_p0_seeker_isSpent s_p0_seeker_foundCount s_p0_seeker_foundSet))
def w_X6_firstFound_50 (t_0 : Int32) (s_p0_latestTries : Int32) (s_p0_latestAsked : Int64) (s_p0_seeker_tryCount : Int32) (s_p0_seeker_isSpent : Int32) (s_p0_seeker_foundCount : Int32) (s_p0_seeker_foundSet : Int64) (Q : Int32 → (Int32) → (Int64) → Prop) : Prop := (Q t_0 s_p0_latestTries s_p0_latestAsked)
def w_X6_firstFound (s_p0_latestTries : Int32) (s_p0_latestAsked : Int64) (s_p0_seeker_tryCount : Int32) (s_p0_seeker_isSpent : Int32) (s_p0_seeker_foundCount : Int32) (s_p0_seeker_foundSet : Int64) (Q : Int32 → (Int32) → (Int64) → Prop) : Prop := ((s_p0_seeker_isSpent = 0 → ((¬ s_p0_seeker_foundCount = 0 → (w_X6_askedSet s_p0_seeker_foundSet s_p0_latestAsked (fun (r_47 : Int32) (u_47_0 : Int64) => (w_X6_firstFound_50 r_47 s_p0_seeker_tryCount u_47_0 s_p0_seeker_tryCount s_p0_seeker_isSpent s_p0_seeker_foundCount s_p0_seeker_foundSet Q)))) ∧ (s_p0_seeker_foundCount = 0 → (w_X6_firstFound_50 (-9 : Int32) s_p0_seeker_tryCount s_p0_latestAsked s_p0_seeker_tryCount s_p0_seeker_isSpent s_p0_seeker_foundCount s_p0_seeker_foundSet Q)))) ∧ (¬ s_p0_seeker_isSpent = 0 → (Q (-6 : Int32) s_p0_seeker_tryCount s_p0_latestAsked)))
-- X6_firstFound
theorem iX6_firstFound_X4 : ∀ w ∈ wsX40, w ∈ wsX6_firstFound := by decide +kernel
theorem iX6_firstFound_X6 : ∀ w ∈ wsX60, w ∈ wsX6_firstFound := by decide +kernel
set_option maxHeartbeats 4000000 in
set_option maxRecDepth 100000 in
theorem k_X6_firstFound_50 {E : vE} {T : Nat → ClassId} {o_p0 : Nat} {a_p0 : Nat → Nat} {o_S : Nat} {a_p0_seeker : Nat → Nat} {s_p0_sentSize : Int32} {s_p0_latestFinding : Int32} {s_p0_latestTries : Int32} {s_p0_latestAsked : Int64} {s_p0_seeker_allMet : Int64} {s_p0_seeker_depth : Int32} {s_p0_seeker_tryCount : Int32} {s_p0_seeker_isSpent : Int32} {s_p0_seeker_foundCount : Int32} {s_p0_seeker_foundSet : Int64} {t_0 : Int32} {Q : Int32 → (Int32) → (Int64) → Prop} (X : vX E cX6_firstFound 1 RX6 wsX6_firstFound (vT T) (vr 2 43)) (r : r_X6_firstFound E T o_p0 a_p0 o_S a_p0_seeker s_p0_sentSize s_p0_latestFinding s_p0_seeker_allMet s_p0_seeker_depth s_p0_seeker_tryCount s_p0_seeker_isSpent s_p0_seeker_foundCount s_p0_seeker_foundSet Q) (h : w_X6_firstFound_50 t_0 s_p0_latestTries s_p0_latestAsked s_p0_seeker_tryCount s_p0_seeker_isSpent s_p0_seeker_foundCount s_p0_seeker_foundSet Q) : V E 0 0 50 [] [.int t_0] (cl_X6_firstFound T o_p0 a_p0 o_S a_p0_seeker s_p0_sentSize s_p0_latestFinding s_p0_latestTries s_p0_latestAsked s_p0_seeker_allMet s_p0_seeker_depth s_p0_seeker_tryCount s_p0_seeker_isSpent s_p0_seeker_foundCount s_p0_seeker_foundSet) := by
  unfold w_X6_firstFound_50 at h
  exact r _ _ _ (s_p0_latestTries, s_p0_latestAsked) _ dX6_firstFound_50 h rfl
set_option maxHeartbeats 4000000 in
set_option maxRecDepth 100000 in
theorem c_X6_firstFound {l : Launch} {D : va_G} {T : Nat → ClassId} {o_p0 : Nat} {a_p0 : Nat → Nat} {o_S : Nat} {a_p0_seeker : Nat → Nat} {s_p0_sentSize : Int32} {s_p0_latestFinding : Int32} {s_p0_latestTries : Int32} {s_p0_latestAsked : Int64} {s_p0_seeker_allMet : Int64} {s_p0_seeker_depth : Int32} {s_p0_seeker_tryCount : Int32} {s_p0_seeker_isSpent : Int32} {s_p0_seeker_foundCount : Int32} {s_p0_seeker_foundSet : Int64} {Q : Int32 → (Int32) → (Int64) → Prop} (h : w_X6_firstFound s_p0_latestTries s_p0_latestAsked s_p0_seeker_tryCount s_p0_seeker_isSpent s_p0_seeker_foundCount s_p0_seeker_foundSet Q) : vCi l D (vT T) yX6_firstFound wsX6_firstFound (vr 2 43) [.ref o_p0] (cl_X6_firstFound T o_p0 a_p0 o_S a_p0_seeker s_p0_sentSize s_p0_latestFinding s_p0_latestTries s_p0_latestAsked s_p0_seeker_allMet s_p0_seeker_depth s_p0_seeker_tryCount s_p0_seeker_isSpent s_p0_seeker_foundCount s_p0_seeker_foundSet) (fun v (u : (Int32) × (Int64)) => Q v u.1 u.2) (fun (u : (Int32) × (Int64)) => (cl_X6_firstFound T o_p0 a_p0 o_S a_p0_seeker s_p0_sentSize s_p0_latestFinding u.1 u.2 s_p0_seeker_allMet s_p0_seeker_depth s_p0_seeker_tryCount s_p0_seeker_isSpent s_p0_seeker_foundCount s_p0_seeker_foundSet)) := by
  refine vC_i (cc := cX6_firstFound) (nL := 1) (by decide +kernel) rfl ⟨rfl, rfl⟩ (Nat.le_of_ble_eq_true rfl) rfl ?_
  intro E el eD X r
  unfold w_X6_firstFound at h
  refine v_aload_n X 0 dX6_firstFound_0 rfl rfl ?_
  refine v_aload_n X 0 dX6_firstFound_1 rfl rfl ?_
  refine v_get X 0 6 (F := TX6) (N := 13) iX6_firstFound_X6 rfl rfl (by decide) (List.mem_of_getElem? (i := 1) rfl) rfl rfl dX6_firstFound_2 ?_
  refine v_getN X 1 5 (F := TX4) (N := 9) iX6_firstFound_X4 rfl rfl (by decide) (List.mem_of_getElem? (i := 1) rfl) rfl rfl dX6_firstFound_5 ?_
  refine v_put X (ws' := (cl_X6_firstFound T o_p0 a_p0 o_S a_p0_seeker s_p0_sentSize s_p0_latestFinding s_p0_seeker_tryCount s_p0_latestAsked s_p0_seeker_allMet s_p0_seeker_depth s_p0_seeker_tryCount s_p0_seeker_isSpent s_p0_seeker_foundCount s_p0_seeker_foundSet)) 0 11 (F := TX6) (N := 13) iX6_firstFound_X6 rfl tyX6 tyX6_ok nmX6 rfl (by decide) (List.mem_of_getElem? (i := 2) rfl) rfl rfl rfl rfl rfl (Nat.le_of_ble_eq_true rfl) rfl dX6_firstFound_8 ?_
  refine v_aload_n X 0 dX6_firstFound_11 rfl rfl ?_
  refine v_get X 0 6 (F := TX6) (N := 13) iX6_firstFound_X6 rfl rfl (by decide) (List.mem_of_getElem? (i := 1) rfl) rfl rfl dX6_firstFound_12 ?_
  refine v_getN X 1 6 (F := TX4) (N := 9) iX6_firstFound_X4 rfl rfl (by decide) (List.mem_of_getElem? (i := 2) rfl) rfl rfl dX6_firstFound_15 ?_
  refine v_if_eq X (tgt := 24) dX6_firstFound_18 (by decide) (fun c_18 => ?_) (fun c_18 => ?_)
  · replace h := h.1 c_18
    refine v_aload_n X 0 dX6_firstFound_24 rfl rfl ?_
    refine v_get X 0 6 (F := TX6) (N := 13) iX6_firstFound_X6 rfl rfl (by decide) (List.mem_of_getElem? (i := 1) rfl) rfl rfl dX6_firstFound_25 ?_
    refine v_getN X 1 7 (F := TX4) (N := 9) iX6_firstFound_X4 rfl rfl (by decide) (List.mem_of_getElem? (i := 3) rfl) rfl rfl dX6_firstFound_28 ?_
    refine v_if_ne X (tgt := 39) dX6_firstFound_31 (by decide) (fun c_31 => ?_) (fun c_31 => ?_)
    · replace h := h.1 c_31
      refine v_aload_n X 0 dX6_firstFound_39 rfl rfl ?_
      refine v_aload_n X 0 dX6_firstFound_40 rfl rfl ?_
      refine v_get X 0 6 (F := TX6) (N := 13) iX6_firstFound_X6 rfl rfl (by decide) (List.mem_of_getElem? (i := 1) rfl) rfl rfl dX6_firstFound_41 ?_
      refine v_getN X 1 8 (F := TX4) (N := 9) iX6_firstFound_X4 rfl rfl (by decide) (List.mem_of_getElem? (i := 4) rfl) rfl rfl dX6_firstFound_44 ?_
      refine v_callVi X (As := [.long s_p0_seeker_foundSet]) (rest := []) 1 0 (c_X6_askedSet (l := vl E) (D := vD E) (T := T) (o_p0 := o_p0) (a_p0 := a_p0) (o_S := o_S) (s_p0_sentSize := s_p0_sentSize) (s_p0_latestFinding := s_p0_latestFinding) (s_p0_latestTries := s_p0_seeker_tryCount) (s_p0_latestAsked := s_p0_latestAsked) (x_1 := s_p0_seeker_foundSet) h) gX6_firstFound_X6_askedSet rfl rfl (by decide +kernel) ⟨Nat.zero_le _, Nat.zero_le _⟩ ⟨rfl, rfl, by decide, by decide⟩ (Nat.le_of_ble_eq_true rfl) rfl rfl (wr := [vO (a_p0 6) 1 [.ref (a_p0_seeker 0), .ref (a_p0_seeker 1), .ref (a_p0_seeker 2), .long s_p0_seeker_allMet, .int s_p0_seeker_depth, .int s_p0_seeker_tryCount, .int s_p0_seeker_isSpent, .int s_p0_seeker_foundCount, .long s_p0_seeker_foundSet]]) [0] [1] rfl rfl rfl rfl (by decide) rfl dX6_firstFound_47 (fun r_47 u h => ?_)
      obtain ⟨u_47_0, rfl⟩ : ∃ z, z = u := ⟨_, rfl⟩
      refine v_ws (ws' := (cl_X6_firstFound T o_p0 a_p0 o_S a_p0_seeker s_p0_sentSize s_p0_latestFinding s_p0_seeker_tryCount u_47_0 s_p0_seeker_allMet s_p0_seeker_depth s_p0_seeker_tryCount s_p0_seeker_isSpent s_p0_seeker_foundCount s_p0_seeker_foundSet)) [1, 0] rfl rfl ?_
      refine v_lv (lv' := []) [] rfl ?_
      exact k_X6_firstFound_50 X r h
    · replace h := h.2 c_31
      refine v_bipush X dX6_firstFound_34 (v := (-9 : Int32)) (by decide) ?_
      refine v_goto X (tgt := 50) dX6_firstFound_36 (by decide) ?_
      refine v_lv (lv' := []) [] rfl ?_
      exact k_X6_firstFound_50 X r h
  · replace h := h.2 c_18
    refine v_bipush X dX6_firstFound_21 (v := (-6 : Int32)) (by decide) ?_
    exact r _ _ _ (s_p0_seeker_tryCount, s_p0_latestAsked) _ dX6_firstFound_23 h rfl
-- X6_isNumberOfTries
abbrev cl_X6_isNumberOfTries (T : Nat → ClassId) : va_W := []
abbrev r_X6_isNumberOfTries (E : vE) (T : Nat → ClassId) (Q : Int32 → Prop) : Prop := vRz E cX6_isNumberOfTries (fun v (u : Unit) => Q v) (fun (u : Unit) => (cl_X6_isNumberOfTries T))
def w_X6_isNumberOfTries_17 (t_0 : Int32) (Q : Int32 → Prop) : Prop := (vz t_0 ∧ Q t_0)
def w_X6_isNumberOfTries_16 (Q : Int32 → Prop) : Prop := (w_X6_isNumberOfTries_17 (0 : Int32) Q)
def w_X6_isNumberOfTries (x_0 : Int32) (Q : Int32 → Prop) : Prop := ((x_0 < (1 : Int32) → (w_X6_isNumberOfTries_16 Q)) ∧ (¬ x_0 < (1 : Int32) → (((100000 : Int32) < x_0 → (w_X6_isNumberOfTries_16 Q)) ∧ (¬ (100000 : Int32) < x_0 → (w_X6_isNumberOfTries_17 (1 : Int32) Q)))))
-- X6_isNumberOfTries
set_option maxHeartbeats 4000000 in
set_option maxRecDepth 100000 in
theorem k_X6_isNumberOfTries_17 {E : vE} {T : Nat → ClassId} {t_0 : Int32} {Q : Int32 → Prop} (X : vX E cX6_isNumberOfTries 1 RX6 wsX6_isNumberOfTries (vT T) (vr 0 0)) (r : r_X6_isNumberOfTries E T Q) (h : w_X6_isNumberOfTries_17 t_0 Q) : V E 0 0 17 [] [.int t_0] (cl_X6_isNumberOfTries T) := by
  unfold w_X6_isNumberOfTries_17 at h
  exact r _ _ _ () _ dX6_isNumberOfTries_17 h.1 h.2 rfl
set_option maxHeartbeats 4000000 in
set_option maxRecDepth 100000 in
theorem k_X6_isNumberOfTries_16 {E : vE} {T : Nat → ClassId} {Q : Int32 → Prop} (X : vX E cX6_isNumberOfTries 1 RX6 wsX6_isNumberOfTries (vT T) (vr 0 0)) (r : r_X6_isNumberOfTries E T Q) (h : w_X6_isNumberOfTries_16 Q) : V E 0 0 16 [] [] (cl_X6_isNumberOfTries T) := by
  unfold w_X6_isNumberOfTries_16 at h
  refine v_iconst X dX6_isNumberOfTries_16 (v := (0 : Int32)) (by decide) ?_
  exact k_X6_isNumberOfTries_17 X r h
set_option maxHeartbeats 4000000 in
set_option maxRecDepth 100000 in
theorem c_X6_isNumberOfTries {l : Launch} {D : va_G} {T : Nat → ClassId} {x_0 : Int32} {Q : Int32 → Prop} (h : w_X6_isNumberOfTries x_0 Q) : vCi l D (vT T) yX6_isNumberOfTries wsX6_isNumberOfTries (vr 0 0) [.int x_0] (cl_X6_isNumberOfTries T) (fun v (u : Unit) => Q v) (fun (u : Unit) => (cl_X6_isNumberOfTries T)) := by
  refine vC_z (cc := cX6_isNumberOfTries) (nL := 1) (by decide +kernel) rfl ⟨rfl, rfl⟩ (Nat.le_of_ble_eq_true rfl) rfl ?_
  intro E el eD X r
  unfold w_X6_isNumberOfTries at h
  refine v_iload_n X 0 dX6_isNumberOfTries_0 rfl rfl ?_
  refine v_iconst X dX6_isNumberOfTries_1 (v := (1 : Int32)) (by decide) ?_
  refine v_icmp_lt X (tgt := 16) dX6_isNumberOfTries_2 (by decide) (fun c_2 => ?_) (fun c_2 => ?_)
  · replace h := h.1 c_2
    refine v_lv (lv' := []) [] rfl ?_
    exact k_X6_isNumberOfTries_16 X r h
  · replace h := h.2 c_2
    refine v_iload_n X 0 dX6_isNumberOfTries_5 rfl rfl ?_
    refine v_ldcw X (v := (100000 : Int32)) (List.mem_of_getElem? (i := 1) rfl) dX6_isNumberOfTries_6 ?_
    refine v_icmp_gt X (tgt := 16) dX6_isNumberOfTries_9 (by decide) (fun c_9 => ?_) (fun c_9 => ?_)
    · replace h := h.1 c_9
      refine v_lv (lv' := []) [] rfl ?_
      exact k_X6_isNumberOfTries_16 X r h
    · replace h := h.2 c_9
      refine v_iconst X dX6_isNumberOfTries_12 (v := (1 : Int32)) (by decide) ?_
      refine v_goto X (tgt := 17) dX6_isNumberOfTries_13 (by decide) ?_
      refine v_lv (lv' := []) [] rfl ?_
      exact k_X6_isNumberOfTries_17 X r h
-- X6_ovoid
abbrev cl_X6_ovoid (T : Nat → ClassId) (o_p0 : Nat) (a_p0 : Nat → Nat) (o_S : Nat) (o_W : Nat) (a_W : Nat → Nat) (a_p0_seeker : Nat → Nat) (s_p0_sentSize : Int32) (s_p0_latestFinding : Int32) (s_p0_latestTries : Int32) (s_p0_latestAsked : Int64) (s_W_there : Int32) (s_W_kind : Int32) (s_W_tag : Int32) (s_W_size : Int32) (s_W_lineCount : Int32) (s_W_sets : Nat → Int64) (s_W_through : Nat → Int64) (s_p0_findingTimes : Nat → Int32) (s_p0_seeker_allMet : Int64) (s_p0_seeker_depth : Int32) (s_p0_seeker_tryCount : Int32) (s_p0_seeker_isSpent : Int32) (s_p0_seeker_foundCount : Int32) (s_p0_seeker_foundSet : Int64) (s_p0_seeker_left : Nat → Int64) (s_p0_seeker_met : Nat → Int64) (s_p0_seeker_taken : Nat → Int64) (s_p0_worlds : Nat → Option Nat) : va_W := [vO o_p0 3 [.ref (a_p0 0), .ref (a_p0 1), .ref (a_p0 2), .ref (a_p0 3), .ref (a_p0 4), .ref (a_p0 5), .ref (a_p0 6), .ref (a_p0 7), .ref o_S, .int s_p0_sentSize, .int s_p0_latestFinding, .int s_p0_latestTries, .long s_p0_latestAsked], vO o_W 2 [.ref (a_W 0), .ref (a_W 1), .ref (a_W 2), .int s_W_there, .int s_W_kind, .int s_W_tag, .int s_W_size, .int s_W_lineCount], vJ T (a_W 0) 45 s_W_sets, vJ T (a_W 1) 45 s_W_through, vI T (a_p0 3) 6 s_p0_findingTimes, vO (a_p0 6) 1 [.ref (a_p0_seeker 0), .ref (a_p0_seeker 1), .ref (a_p0_seeker 2), .long s_p0_seeker_allMet, .int s_p0_seeker_depth, .int s_p0_seeker_tryCount, .int s_p0_seeker_isSpent, .int s_p0_seeker_foundCount, .long s_p0_seeker_foundSet], vJ T (a_p0_seeker 2) 46 s_p0_seeker_left, vJ T (a_p0_seeker 0) 46 s_p0_seeker_met, vJ T (a_p0_seeker 1) 46 s_p0_seeker_taken, vR T 2 (a_p0 0) 6 s_p0_worlds]
abbrev r_X6_ovoid (E : vE) (T : Nat → ClassId) (o_p0 : Nat) (a_p0 : Nat → Nat) (o_S : Nat) (o_W : Nat) (a_W : Nat → Nat) (a_p0_seeker : Nat → Nat) (s_p0_sentSize : Int32) (s_W_there : Int32) (s_W_kind : Int32) (s_W_tag : Int32) (s_W_size : Int32) (s_W_lineCount : Int32) (s_W_sets : Nat → Int64) (s_W_through : Nat → Int64) (s_p0_worlds : Nat → Option Nat) (Q : Int32 → (Int32) → (Int32) → (Int64) → (Nat → Int32) → (Int64) → (Int32) → (Int32) → (Int32) → (Int32) → (Int64) → (Nat → Int64) → (Nat → Int64) → (Nat → Int64) → Prop) : Prop := vRi E cX6_ovoid (fun v (u : (Int32) × (Int32) × (Int64) × (Nat → Int32) × (Int64) × (Int32) × (Int32) × (Int32) × (Int32) × (Int64) × (Nat → Int64) × (Nat → Int64) × (Nat → Int64)) => Q v u.1 u.2.1 u.2.2.1 u.2.2.2.1 u.2.2.2.2.1 u.2.2.2.2.2.1 u.2.2.2.2.2.2.1 u.2.2.2.2.2.2.2.1 u.2.2.2.2.2.2.2.2.1 u.2.2.2.2.2.2.2.2.2.1 u.2.2.2.2.2.2.2.2.2.2.1 u.2.2.2.2.2.2.2.2.2.2.2.1 u.2.2.2.2.2.2.2.2.2.2.2.2) (fun (u : (Int32) × (Int32) × (Int64) × (Nat → Int32) × (Int64) × (Int32) × (Int32) × (Int32) × (Int32) × (Int64) × (Nat → Int64) × (Nat → Int64) × (Nat → Int64)) => (cl_X6_ovoid T o_p0 a_p0 o_S o_W a_W a_p0_seeker s_p0_sentSize u.1 u.2.1 u.2.2.1 s_W_there s_W_kind s_W_tag s_W_size s_W_lineCount s_W_sets s_W_through u.2.2.2.1 u.2.2.2.2.1 u.2.2.2.2.2.1 u.2.2.2.2.2.2.1 u.2.2.2.2.2.2.2.1 u.2.2.2.2.2.2.2.2.1 u.2.2.2.2.2.2.2.2.2.1 u.2.2.2.2.2.2.2.2.2.2.1 u.2.2.2.2.2.2.2.2.2.2.2.1 u.2.2.2.2.2.2.2.2.2.2.2.2 s_p0_worlds))
def w_X6_ovoid_14 (s_p0_latestFinding : Int32) (s_p0_latestTries : Int32) (s_p0_latestAsked : Int64) (s_W_there : Int32) (s_W_lineCount : Int32) (s_W_sets : Nat → Int64) (s_W_through : Nat → Int64) (s_p0_findingTimes : Nat → Int32) (s_p0_seeker_allMet : Int64) (s_p0_seeker_depth : Int32) (s_p0_seeker_tryCount : Int32) (s_p0_seeker_isSpent : Int32) (s_p0_seeker_foundCount : Int32) (s_p0_seeker_foundSet : Int64) (s_p0_seeker_left : Nat → Int64) (s_p0_seeker_met : Nat → Int64) (s_p0_seeker_taken : Nat → Int64) (s_p0_worlds : Nat → Option Nat) (o_W : Nat) (Q : Int32 → (Int32) → (Int32) → (Int64) → (Nat → Int32) → (Int64) → (Int32) → (Int32) → (Int32) → (Int32) → (Int64) → (Nat → Int64) → (Nat → Int64) → (Nat → Int64) → Prop) : Prop := (Q (-1 : Int32) s_p0_latestFinding s_p0_latestTries s_p0_latestAsked s_p0_findingTimes s_p0_seeker_allMet s_p0_seeker_depth s_p0_seeker_tryCount s_p0_seeker_isSpent s_p0_seeker_foundCount s_p0_seeker_foundSet s_p0_seeker_left s_p0_seeker_met s_p0_seeker_taken)
def w_X6_ovoid (x_1 : Int32) (x_2 : Int32) (s_p0_latestFinding : Int32) (s_p0_latestTries : Int32) (s_p0_latestAsked : Int64) (s_W_there : Int32) (s_W_lineCount : Int32) (s_W_sets : Nat → Int64) (s_W_through : Nat → Int64) (s_p0_findingTimes : Nat → Int32) (s_p0_seeker_allMet : Int64) (s_p0_seeker_depth : Int32) (s_p0_seeker_tryCount : Int32) (s_p0_seeker_isSpent : Int32) (s_p0_seeker_foundCount : Int32) (s_p0_seeker_foundSet : Int64) (s_p0_seeker_left : Nat → Int64) (s_p0_seeker_met : Nat → Int64) (s_p0_seeker_taken : Nat → Int64) (s_p0_worlds : Nat → Option Nat) (o_W : Nat) (Q : Int32 → (Int32) → (Int32) → (Int64) → (Nat → Int32) → (Int64) → (Int32) → (Int32) → (Int32) → (Int32) → (Int64) → (Nat → Int64) → (Nat → Int64) → (Nat → Int64) → Prop) : Prop := (w_X6_isWorldNumber x_1 (fun (r_1 : Int32) => ((r_1 = 0 → (w_X6_ovoid_14 s_p0_latestFinding s_p0_latestTries s_p0_latestAsked s_W_there s_W_lineCount s_W_sets s_W_through s_p0_findingTimes s_p0_seeker_allMet s_p0_seeker_depth s_p0_seeker_tryCount s_p0_seeker_isSpent s_p0_seeker_foundCount s_p0_seeker_foundSet s_p0_seeker_left s_p0_seeker_met s_p0_seeker_taken s_p0_worlds o_W Q)) ∧ (¬ r_1 = 0 → (w_X6_isNumberOfTries x_2 (fun (r_8 : Int32) => ((¬ r_8 = 0 → (vp_in x_1 6 ∧ s_p0_worlds (x_1).toNatClampNeg = some o_W ∧ ((¬ s_W_there = 0 → (w_X4_seek s_W_lineCount x_2 (0 : Int32) s_p0_seeker_allMet s_p0_seeker_depth s_p0_seeker_tryCount s_p0_seeker_isSpent s_p0_seeker_foundCount s_p0_seeker_foundSet s_p0_seeker_left s_p0_seeker_met s_p0_seeker_taken s_W_sets s_W_through (fun (u_54_0 : Int64) (u_54_1 : Int32) (u_54_2 : Int32) (u_54_3 : Int32) (u_54_4 : Int32) (u_54_5 : Int64) (u_54_6 : Nat → Int64) (u_54_7 : Nat → Int64) (u_54_8 : Nat → Int64) => (w_X6_firstFound s_p0_latestTries s_p0_latestAsked u_54_2 u_54_3 u_54_4 u_54_5 (fun (r_58 : Int32) (u_58_0 : Int32) (u_58_1 : Int64) => (Q r_58 s_p0_latestFinding u_58_0 u_58_1 s_p0_findingTimes u_54_0 u_54_1 u_54_2 u_54_3 u_54_4 u_54_5 u_54_6 u_54_7 u_54_8)))))) ∧ (s_W_there = 0 → (w_X6_refused (1 : Int32) s_p0_latestFinding s_p0_findingTimes (fun (r_32 : Int32) (u_32_0 : Int32) (u_32_1 : Nat → Int32) => (Q r_32 u_32_0 s_p0_latestTries s_p0_latestAsked u_32_1 s_p0_seeker_allMet s_p0_seeker_depth s_p0_seeker_tryCount s_p0_seeker_isSpent s_p0_seeker_foundCount s_p0_seeker_foundSet s_p0_seeker_left s_p0_seeker_met s_p0_seeker_taken))))))) ∧ (r_8 = 0 → (w_X6_ovoid_14 s_p0_latestFinding s_p0_latestTries s_p0_latestAsked s_W_there s_W_lineCount s_W_sets s_W_through s_p0_findingTimes s_p0_seeker_allMet s_p0_seeker_depth s_p0_seeker_tryCount s_p0_seeker_isSpent s_p0_seeker_foundCount s_p0_seeker_foundSet s_p0_seeker_left s_p0_seeker_met s_p0_seeker_taken s_p0_worlds o_W Q)))))))))
-- X6_ovoid
theorem iX6_ovoid_X5 : ∀ w ∈ wsX50, w ∈ wsX6_ovoid := by decide +kernel
theorem iX6_ovoid_X6 : ∀ w ∈ wsX60, w ∈ wsX6_ovoid := by decide +kernel
set_option maxHeartbeats 4000000 in
set_option maxRecDepth 100000 in
theorem k_X6_ovoid_14 {E : vE} {T : Nat → ClassId} {o_p0 : Nat} {a_p0 : Nat → Nat} {o_S : Nat} {o_W : Nat} {a_W : Nat → Nat} {a_p0_seeker : Nat → Nat} {s_p0_sentSize : Int32} {s_p0_latestFinding : Int32} {s_p0_latestTries : Int32} {s_p0_latestAsked : Int64} {s_W_there : Int32} {s_W_kind : Int32} {s_W_tag : Int32} {s_W_size : Int32} {s_W_lineCount : Int32} {s_W_sets : Nat → Int64} {s_W_through : Nat → Int64} {s_p0_findingTimes : Nat → Int32} {s_p0_seeker_allMet : Int64} {s_p0_seeker_depth : Int32} {s_p0_seeker_tryCount : Int32} {s_p0_seeker_isSpent : Int32} {s_p0_seeker_foundCount : Int32} {s_p0_seeker_foundSet : Int64} {s_p0_seeker_left : Nat → Int64} {s_p0_seeker_met : Nat → Int64} {s_p0_seeker_taken : Nat → Int64} {s_p0_worlds : Nat → Option Nat} {Q : Int32 → (Int32) → (Int32) → (Int64) → (Nat → Int32) → (Int64) → (Int32) → (Int32) → (Int32) → (Int32) → (Int64) → (Nat → Int64) → (Nat → Int64) → (Nat → Int64) → Prop} (X : vX E cX6_ovoid 4 RX6 wsX6_ovoid (vT T) (vr 5 115)) (r : r_X6_ovoid E T o_p0 a_p0 o_S o_W a_W a_p0_seeker s_p0_sentSize s_W_there s_W_kind s_W_tag s_W_size s_W_lineCount s_W_sets s_W_through s_p0_worlds Q) (h : w_X6_ovoid_14 s_p0_latestFinding s_p0_latestTries s_p0_latestAsked s_W_there s_W_lineCount s_W_sets s_W_through s_p0_findingTimes s_p0_seeker_allMet s_p0_seeker_depth s_p0_seeker_tryCount s_p0_seeker_isSpent s_p0_seeker_foundCount s_p0_seeker_foundSet s_p0_seeker_left s_p0_seeker_met s_p0_seeker_taken s_p0_worlds o_W Q) : V E 0 0 14 [] [] (cl_X6_ovoid T o_p0 a_p0 o_S o_W a_W a_p0_seeker s_p0_sentSize s_p0_latestFinding s_p0_latestTries s_p0_latestAsked s_W_there s_W_kind s_W_tag s_W_size s_W_lineCount s_W_sets s_W_through s_p0_findingTimes s_p0_seeker_allMet s_p0_seeker_depth s_p0_seeker_tryCount s_p0_seeker_isSpent s_p0_seeker_foundCount s_p0_seeker_foundSet s_p0_seeker_left s_p0_seeker_met s_p0_seeker_taken s_p0_worlds) := by
  unfold w_X6_ovoid_14 at h
  refine v_iconst X dX6_ovoid_14 (v := (-1 : Int32)) (by decide) ?_
  exact r _ _ _ (s_p0_latestFinding, s_p0_latestTries, s_p0_latestAsked, s_p0_findingTimes, s_p0_seeker_allMet, s_p0_seeker_depth, s_p0_seeker_tryCount, s_p0_seeker_isSpent, s_p0_seeker_foundCount, s_p0_seeker_foundSet, s_p0_seeker_left, s_p0_seeker_met, s_p0_seeker_taken) _ dX6_ovoid_15 h rfl
set_option maxHeartbeats 4000000 in
set_option maxRecDepth 100000 in
theorem c_X6_ovoid {l : Launch} {D : va_G} {T : Nat → ClassId} {o_p0 : Nat} {a_p0 : Nat → Nat} {o_S : Nat} {o_W : Nat} {a_W : Nat → Nat} {a_p0_seeker : Nat → Nat} {s_p0_sentSize : Int32} {s_p0_latestFinding : Int32} {s_p0_latestTries : Int32} {s_p0_latestAsked : Int64} {s_W_there : Int32} {s_W_kind : Int32} {s_W_tag : Int32} {s_W_size : Int32} {s_W_lineCount : Int32} {s_W_sets : Nat → Int64} {s_W_through : Nat → Int64} {s_p0_findingTimes : Nat → Int32} {s_p0_seeker_allMet : Int64} {s_p0_seeker_depth : Int32} {s_p0_seeker_tryCount : Int32} {s_p0_seeker_isSpent : Int32} {s_p0_seeker_foundCount : Int32} {s_p0_seeker_foundSet : Int64} {s_p0_seeker_left : Nat → Int64} {s_p0_seeker_met : Nat → Int64} {s_p0_seeker_taken : Nat → Int64} {s_p0_worlds : Nat → Option Nat} {x_1 : Int32} {x_2 : Int32} {Q : Int32 → (Int32) → (Int32) → (Int64) → (Nat → Int32) → (Int64) → (Int32) → (Int32) → (Int32) → (Int32) → (Int64) → (Nat → Int64) → (Nat → Int64) → (Nat → Int64) → Prop} (h : w_X6_ovoid x_1 x_2 s_p0_latestFinding s_p0_latestTries s_p0_latestAsked s_W_there s_W_lineCount s_W_sets s_W_through s_p0_findingTimes s_p0_seeker_allMet s_p0_seeker_depth s_p0_seeker_tryCount s_p0_seeker_isSpent s_p0_seeker_foundCount s_p0_seeker_foundSet s_p0_seeker_left s_p0_seeker_met s_p0_seeker_taken s_p0_worlds o_W Q) : vCi l D (vT T) yX6_ovoid wsX6_ovoid (vr 5 115) [.ref o_p0, .int x_1, .int x_2] (cl_X6_ovoid T o_p0 a_p0 o_S o_W a_W a_p0_seeker s_p0_sentSize s_p0_latestFinding s_p0_latestTries s_p0_latestAsked s_W_there s_W_kind s_W_tag s_W_size s_W_lineCount s_W_sets s_W_through s_p0_findingTimes s_p0_seeker_allMet s_p0_seeker_depth s_p0_seeker_tryCount s_p0_seeker_isSpent s_p0_seeker_foundCount s_p0_seeker_foundSet s_p0_seeker_left s_p0_seeker_met s_p0_seeker_taken s_p0_worlds) (fun v (u : (Int32) × (Int32) × (Int64) × (Nat → Int32) × (Int64) × (Int32) × (Int32) × (Int32) × (Int32) × (Int64) × (Nat → Int64) × (Nat → Int64) × (Nat → Int64)) => Q v u.1 u.2.1 u.2.2.1 u.2.2.2.1 u.2.2.2.2.1 u.2.2.2.2.2.1 u.2.2.2.2.2.2.1 u.2.2.2.2.2.2.2.1 u.2.2.2.2.2.2.2.2.1 u.2.2.2.2.2.2.2.2.2.1 u.2.2.2.2.2.2.2.2.2.2.1 u.2.2.2.2.2.2.2.2.2.2.2.1 u.2.2.2.2.2.2.2.2.2.2.2.2) (fun (u : (Int32) × (Int32) × (Int64) × (Nat → Int32) × (Int64) × (Int32) × (Int32) × (Int32) × (Int32) × (Int64) × (Nat → Int64) × (Nat → Int64) × (Nat → Int64)) => (cl_X6_ovoid T o_p0 a_p0 o_S o_W a_W a_p0_seeker s_p0_sentSize u.1 u.2.1 u.2.2.1 s_W_there s_W_kind s_W_tag s_W_size s_W_lineCount s_W_sets s_W_through u.2.2.2.1 u.2.2.2.2.1 u.2.2.2.2.2.1 u.2.2.2.2.2.2.1 u.2.2.2.2.2.2.2.1 u.2.2.2.2.2.2.2.2.1 u.2.2.2.2.2.2.2.2.2.1 u.2.2.2.2.2.2.2.2.2.2.1 u.2.2.2.2.2.2.2.2.2.2.2.1 u.2.2.2.2.2.2.2.2.2.2.2.2 s_p0_worlds)) := by
  refine vC_i (cc := cX6_ovoid) (nL := 4) (by decide +kernel) rfl ⟨rfl, rfl⟩ (Nat.le_of_ble_eq_true rfl) rfl ?_
  intro E el eD X r
  unfold w_X6_ovoid at h
  refine v_iload_n X 1 dX6_ovoid_0 rfl rfl ?_
  refine v_callSi0 X (As := [.int x_1]) (rest := []) 1 (c_X6_isWorldNumber (l := vl E) (D := vD E) (T := T) (x_0 := x_1) h) gX6_ovoid_X6_isWorldNumber rfl rfl (by decide +kernel) ⟨Nat.zero_le _, Nat.zero_le _⟩ ⟨rfl, rfl, by decide, by decide⟩ (Nat.le_of_ble_eq_true rfl) rfl dX6_ovoid_1 (fun r_1 h => ?_)
  refine v_if_eq X (tgt := 14) dX6_ovoid_4 (by decide) (fun c_4 => ?_) (fun c_4 => ?_)
  · replace h := h.1 c_4
    refine v_lv (lv' := []) [] rfl ?_
    exact k_X6_ovoid_14 X r h
  · replace h := h.2 c_4
    refine v_iload_n X 2 dX6_ovoid_7 rfl rfl ?_
    refine v_callSi0 X (As := [.int x_2]) (rest := []) 1 (c_X6_isNumberOfTries (l := vl E) (D := vD E) (T := T) (x_0 := x_2) h) gX6_ovoid_X6_isNumberOfTries rfl rfl (by decide +kernel) ⟨Nat.zero_le _, Nat.zero_le _⟩ ⟨rfl, rfl, by decide, by decide⟩ (Nat.le_of_ble_eq_true rfl) rfl dX6_ovoid_8 (fun r_8 h => ?_)
    refine v_if_ne X (tgt := 16) dX6_ovoid_11 (by decide) (fun c_11 => ?_) (fun c_11 => ?_)
    · replace h := h.1 c_11
      refine v_aload_n X 0 dX6_ovoid_16 rfl rfl ?_
      refine v_get X 0 0 (F := TX6) (N := 13) iX6_ovoid_X6 rfl rfl (by decide) (List.mem_of_getElem? (i := 1) rfl) rfl rfl dX6_ovoid_17 ?_
      refine v_iload_n X 1 dX6_ovoid_20 rfl rfl ?_
      refine v_aald X 9 2 rfl rfl h.1 h.2.1 dX6_ovoid_21 ?_
      replace h := h.2.2
      refine v_astore_n X (lv' := [(3, .ref o_W), (0, .ref o_p0), (1, .int x_1), (2, .int x_2)]) dX6_ovoid_22 rfl (by decide) rfl ?_
      refine v_aload_n X 0 dX6_ovoid_23 rfl rfl ?_
      refine v_getN X 1 3 (F := TX5) (N := 8) iX6_ovoid_X5 rfl rfl (by decide) (List.mem_of_getElem? (i := 23) rfl) rfl rfl dX6_ovoid_24 ?_
      refine v_if_ne X (tgt := 36) dX6_ovoid_27 (by decide) (fun c_27 => ?_) (fun c_27 => ?_)
      · replace h := h.1 c_27
        refine v_aload_n X 1 dX6_ovoid_36 rfl rfl ?_
        refine v_get X 0 6 (F := TX6) (N := 13) iX6_ovoid_X6 rfl rfl (by decide) (List.mem_of_getElem? (i := 2) rfl) rfl rfl dX6_ovoid_37 ?_
        refine v_aload_n X 0 dX6_ovoid_40 rfl rfl ?_
        refine v_getN X 1 7 (F := TX5) (N := 8) iX6_ovoid_X5 rfl rfl (by decide) (List.mem_of_getElem? (i := 33) rfl) rfl rfl dX6_ovoid_41 ?_
        refine v_aload_n X 0 dX6_ovoid_44 rfl rfl ?_
        refine v_getN X 1 0 (F := TX5) (N := 8) iX6_ovoid_X5 rfl rfl (by decide) (List.mem_of_getElem? (i := 15) rfl) rfl rfl dX6_ovoid_45 ?_
        refine v_aload_n X 0 dX6_ovoid_48 rfl rfl ?_
        refine v_getN X 1 1 (F := TX5) (N := 8) iX6_ovoid_X5 rfl rfl (by decide) (List.mem_of_getElem? (i := 19) rfl) rfl rfl dX6_ovoid_49 ?_
        refine v_iload_n X 3 dX6_ovoid_52 rfl rfl ?_
        refine v_iconst X dX6_ovoid_53 (v := (0 : Int32)) (by decide) ?_
        refine v_callVv X (As := [.int s_W_lineCount, .ref (a_W 0), .ref (a_W 1), .int x_2, .int (0 : Int32)]) (rest := []) 5 0 (c_X4_seek (l := vl E) (D := vD E) (T := T) (o_p0 := (a_p0 6)) (a_p0 := a_p0_seeker) (o_p2 := (a_W 0)) (o_p3 := (a_W 1)) (s_p0_allMet := s_p0_seeker_allMet) (s_p0_depth := s_p0_seeker_depth) (s_p0_tryCount := s_p0_seeker_tryCount) (s_p0_isSpent := s_p0_seeker_isSpent) (s_p0_foundCount := s_p0_seeker_foundCount) (s_p0_foundSet := s_p0_seeker_foundSet) (s_p0_left := s_p0_seeker_left) (s_p0_met := s_p0_seeker_met) (s_p0_taken := s_p0_seeker_taken) (s_p2 := s_W_sets) (s_p3 := s_W_through) (x_1 := s_W_lineCount) (x_4 := x_2) (x_5 := (0 : Int32)) h) gX6_ovoid_X4_seek rfl rfl (by decide +kernel) ⟨Nat.zero_le _, Nat.zero_le _⟩ ⟨rfl, rfl, by decide, by decide⟩ (Nat.le_of_ble_eq_true rfl) rfl rfl (wr := [vO o_p0 3 [.ref (a_p0 0), .ref (a_p0 1), .ref (a_p0 2), .ref (a_p0 3), .ref (a_p0 4), .ref (a_p0 5), .ref (a_p0 6), .ref (a_p0 7), .ref o_S, .int s_p0_sentSize, .int s_p0_latestFinding, .int s_p0_latestTries, .long s_p0_latestAsked], vO o_W 2 [.ref (a_W 0), .ref (a_W 1), .ref (a_W 2), .int s_W_there, .int s_W_kind, .int s_W_tag, .int s_W_size, .int s_W_lineCount], vI T (a_p0 3) 6 s_p0_findingTimes, vR T 2 (a_p0 0) 6 s_p0_worlds]) [5, 6, 7, 8, 2, 3] [0, 1, 4, 9] rfl rfl rfl rfl (by decide) rfl dX6_ovoid_54 (fun u h => ?_)
        obtain ⟨u_54_0, u_54_1, u_54_2, u_54_3, u_54_4, u_54_5, u_54_6, u_54_7, u_54_8⟩ := u
        dsimp only at h
        refine v_ws (ws' := (cl_X6_ovoid T o_p0 a_p0 o_S o_W a_W a_p0_seeker s_p0_sentSize s_p0_latestFinding s_p0_latestTries s_p0_latestAsked s_W_there s_W_kind s_W_tag s_W_size s_W_lineCount s_W_sets s_W_through s_p0_findingTimes u_54_0 u_54_1 u_54_2 u_54_3 u_54_4 u_54_5 u_54_6 u_54_7 u_54_8 s_p0_worlds)) [0, 1, 8, 9, 2, 4, 5, 6, 7, 3] rfl rfl ?_
        refine v_aload_n X 1 dX6_ovoid_57 rfl rfl ?_
        refine v_callVi X (As := []) (rest := []) 0 0 (c_X6_firstFound (l := vl E) (D := vD E) (T := T) (o_p0 := o_p0) (a_p0 := a_p0) (o_S := o_S) (a_p0_seeker := a_p0_seeker) (s_p0_sentSize := s_p0_sentSize) (s_p0_latestFinding := s_p0_latestFinding) (s_p0_latestTries := s_p0_latestTries) (s_p0_latestAsked := s_p0_latestAsked) (s_p0_seeker_allMet := u_54_0) (s_p0_seeker_depth := u_54_1) (s_p0_seeker_tryCount := u_54_2) (s_p0_seeker_isSpent := u_54_3) (s_p0_seeker_foundCount := u_54_4) (s_p0_seeker_foundSet := u_54_5) h) gX6_ovoid_X6_firstFound rfl rfl (by decide +kernel) ⟨Nat.zero_le _, Nat.zero_le _⟩ ⟨rfl, rfl, by decide, by decide⟩ (Nat.le_of_ble_eq_true rfl) rfl rfl (wr := [vO o_W 2 [.ref (a_W 0), .ref (a_W 1), .ref (a_W 2), .int s_W_there, .int s_W_kind, .int s_W_tag, .int s_W_size, .int s_W_lineCount], vJ T (a_W 0) 45 s_W_sets, vJ T (a_W 1) 45 s_W_through, vI T (a_p0 3) 6 s_p0_findingTimes, vJ T (a_p0_seeker 2) 46 u_54_6, vJ T (a_p0_seeker 0) 46 u_54_7, vJ T (a_p0_seeker 1) 46 u_54_8, vR T 2 (a_p0 0) 6 s_p0_worlds]) [0, 5] [1, 2, 3, 4, 6, 7, 8, 9] rfl rfl rfl rfl (by decide) rfl dX6_ovoid_58 (fun r_58 u h => ?_)
        obtain ⟨u_58_0, u_58_1⟩ := u
        dsimp only at h
        refine v_ws (ws' := (cl_X6_ovoid T o_p0 a_p0 o_S o_W a_W a_p0_seeker s_p0_sentSize s_p0_latestFinding u_58_0 u_58_1 s_W_there s_W_kind s_W_tag s_W_size s_W_lineCount s_W_sets s_W_through s_p0_findingTimes u_54_0 u_54_1 u_54_2 u_54_3 u_54_4 u_54_5 u_54_6 u_54_7 u_54_8 s_p0_worlds)) [8, 0, 1, 2, 3, 9, 4, 5, 6, 7] rfl rfl ?_
        exact r _ _ _ (s_p0_latestFinding, u_58_0, u_58_1, s_p0_findingTimes, u_54_0, u_54_1, u_54_2, u_54_3, u_54_4, u_54_5, u_54_6, u_54_7, u_54_8) _ dX6_ovoid_61 h rfl
      · replace h := h.2 c_27
        refine v_aload_n X 1 dX6_ovoid_30 rfl rfl ?_
        refine v_iconst X dX6_ovoid_31 (v := (1 : Int32)) (by decide) ?_
        refine v_callVi X (As := [.int (1 : Int32)]) (rest := []) 1 0 (c_X6_refused (l := vl E) (D := vD E) (T := T) (o_p0 := o_p0) (a_p0 := a_p0) (o_S := o_S) (s_p0_sentSize := s_p0_sentSize) (s_p0_latestFinding := s_p0_latestFinding) (s_p0_latestTries := s_p0_latestTries) (s_p0_latestAsked := s_p0_latestAsked) (s_p0_findingTimes := s_p0_findingTimes) (x_1 := (1 : Int32)) h) gX6_ovoid_X6_refused rfl rfl (by decide +kernel) ⟨Nat.zero_le _, Nat.zero_le _⟩ ⟨rfl, rfl, by decide, by decide⟩ (Nat.le_of_ble_eq_true rfl) rfl rfl (wr := [vO o_W 2 [.ref (a_W 0), .ref (a_W 1), .ref (a_W 2), .int s_W_there, .int s_W_kind, .int s_W_tag, .int s_W_size, .int s_W_lineCount], vJ T (a_W 0) 45 s_W_sets, vJ T (a_W 1) 45 s_W_through, vO (a_p0 6) 1 [.ref (a_p0_seeker 0), .ref (a_p0_seeker 1), .ref (a_p0_seeker 2), .long s_p0_seeker_allMet, .int s_p0_seeker_depth, .int s_p0_seeker_tryCount, .int s_p0_seeker_isSpent, .int s_p0_seeker_foundCount, .long s_p0_seeker_foundSet], vJ T (a_p0_seeker 2) 46 s_p0_seeker_left, vJ T (a_p0_seeker 0) 46 s_p0_seeker_met, vJ T (a_p0_seeker 1) 46 s_p0_seeker_taken, vR T 2 (a_p0 0) 6 s_p0_worlds]) [0, 4] [1, 2, 3, 5, 6, 7, 8, 9] rfl rfl rfl rfl (by decide) rfl dX6_ovoid_32 (fun r_32 u h => ?_)
        obtain ⟨u_32_0, u_32_1⟩ := u
        dsimp only at h
        refine v_ws (ws' := (cl_X6_ovoid T o_p0 a_p0 o_S o_W a_W a_p0_seeker s_p0_sentSize u_32_0 s_p0_latestTries s_p0_latestAsked s_W_there s_W_kind s_W_tag s_W_size s_W_lineCount s_W_sets s_W_through u_32_1 s_p0_seeker_allMet s_p0_seeker_depth s_p0_seeker_tryCount s_p0_seeker_isSpent s_p0_seeker_foundCount s_p0_seeker_foundSet s_p0_seeker_left s_p0_seeker_met s_p0_seeker_taken s_p0_worlds)) [8, 0, 1, 2, 9, 3, 4, 5, 6, 7] rfl rfl ?_
        exact r _ _ _ (u_32_0, s_p0_latestTries, s_p0_latestAsked, u_32_1, s_p0_seeker_allMet, s_p0_seeker_depth, s_p0_seeker_tryCount, s_p0_seeker_isSpent, s_p0_seeker_foundCount, s_p0_seeker_foundSet, s_p0_seeker_left, s_p0_seeker_met, s_p0_seeker_taken) _ dX6_ovoid_35 h rfl
    · replace h := h.2 c_11
      refine v_lv (lv' := []) [] rfl ?_
      exact k_X6_ovoid_14 X r h
-- X6_spread
abbrev cl_X6_spread (T : Nat → ClassId) (o_p0 : Nat) (a_p0 : Nat → Nat) (o_S : Nat) (o_W : Nat) (a_W : Nat → Nat) (a_p0_seeker : Nat → Nat) (s_p0_sentSize : Int32) (s_p0_latestFinding : Int32) (s_p0_latestTries : Int32) (s_p0_latestAsked : Int64) (s_W_there : Int32) (s_W_kind : Int32) (s_W_tag : Int32) (s_W_size : Int32) (s_W_lineCount : Int32) (s_W_sets : Nat → Int64) (s_W_through : Nat → Int64) (s_p0_findingTimes : Nat → Int32) (s_p0_seeker_allMet : Int64) (s_p0_seeker_depth : Int32) (s_p0_seeker_tryCount : Int32) (s_p0_seeker_isSpent : Int32) (s_p0_seeker_foundCount : Int32) (s_p0_seeker_foundSet : Int64) (s_p0_seeker_left : Nat → Int64) (s_p0_seeker_met : Nat → Int64) (s_p0_seeker_taken : Nat → Int64) (s_p0_worlds : Nat → Option Nat) : va_W := [vO o_p0 3 [.ref (a_p0 0), .ref (a_p0 1), .ref (a_p0 2), .ref (a_p0 3), .ref (a_p0 4), .ref (a_p0 5), .ref (a_p0 6), .ref (a_p0 7), .ref o_S, .int s_p0_sentSize, .int s_p0_latestFinding, .int s_p0_latestTries, .long s_p0_latestAsked], vO o_W 2 [.ref (a_W 0), .ref (a_W 1), .ref (a_W 2), .int s_W_there, .int s_W_kind, .int s_W_tag, .int s_W_size, .int s_W_lineCount], vJ T (a_W 0) 45 s_W_sets, vJ T (a_W 1) 45 s_W_through, vI T (a_p0 3) 6 s_p0_findingTimes, vO (a_p0 6) 1 [.ref (a_p0_seeker 0), .ref (a_p0_seeker 1), .ref (a_p0_seeker 2), .long s_p0_seeker_allMet, .int s_p0_seeker_depth, .int s_p0_seeker_tryCount, .int s_p0_seeker_isSpent, .int s_p0_seeker_foundCount, .long s_p0_seeker_foundSet], vJ T (a_p0_seeker 2) 46 s_p0_seeker_left, vJ T (a_p0_seeker 0) 46 s_p0_seeker_met, vJ T (a_p0_seeker 1) 46 s_p0_seeker_taken, vR T 2 (a_p0 0) 6 s_p0_worlds]
abbrev r_X6_spread (E : vE) (T : Nat → ClassId) (o_p0 : Nat) (a_p0 : Nat → Nat) (o_S : Nat) (o_W : Nat) (a_W : Nat → Nat) (a_p0_seeker : Nat → Nat) (s_p0_sentSize : Int32) (s_W_there : Int32) (s_W_kind : Int32) (s_W_tag : Int32) (s_W_size : Int32) (s_W_lineCount : Int32) (s_W_sets : Nat → Int64) (s_W_through : Nat → Int64) (s_p0_worlds : Nat → Option Nat) (Q : Int32 → (Int32) → (Int32) → (Int64) → (Nat → Int32) → (Int64) → (Int32) → (Int32) → (Int32) → (Int32) → (Int64) → (Nat → Int64) → (Nat → Int64) → (Nat → Int64) → Prop) : Prop := vRi E cX6_spread (fun v (u : (Int32) × (Int32) × (Int64) × (Nat → Int32) × (Int64) × (Int32) × (Int32) × (Int32) × (Int32) × (Int64) × (Nat → Int64) × (Nat → Int64) × (Nat → Int64)) => Q v u.1 u.2.1 u.2.2.1 u.2.2.2.1 u.2.2.2.2.1 u.2.2.2.2.2.1 u.2.2.2.2.2.2.1 u.2.2.2.2.2.2.2.1 u.2.2.2.2.2.2.2.2.1 u.2.2.2.2.2.2.2.2.2.1 u.2.2.2.2.2.2.2.2.2.2.1 u.2.2.2.2.2.2.2.2.2.2.2.1 u.2.2.2.2.2.2.2.2.2.2.2.2) (fun (u : (Int32) × (Int32) × (Int64) × (Nat → Int32) × (Int64) × (Int32) × (Int32) × (Int32) × (Int32) × (Int64) × (Nat → Int64) × (Nat → Int64) × (Nat → Int64)) => (cl_X6_spread T o_p0 a_p0 o_S o_W a_W a_p0_seeker s_p0_sentSize u.1 u.2.1 u.2.2.1 s_W_there s_W_kind s_W_tag s_W_size s_W_lineCount s_W_sets s_W_through u.2.2.2.1 u.2.2.2.2.1 u.2.2.2.2.2.1 u.2.2.2.2.2.2.1 u.2.2.2.2.2.2.2.1 u.2.2.2.2.2.2.2.2.1 u.2.2.2.2.2.2.2.2.2.1 u.2.2.2.2.2.2.2.2.2.2.1 u.2.2.2.2.2.2.2.2.2.2.2.1 u.2.2.2.2.2.2.2.2.2.2.2.2 s_p0_worlds))
def w_X6_spread_14 (s_p0_latestFinding : Int32) (s_p0_latestTries : Int32) (s_p0_latestAsked : Int64) (s_W_there : Int32) (s_W_size : Int32) (s_W_sets : Nat → Int64) (s_W_through : Nat → Int64) (s_p0_findingTimes : Nat → Int32) (s_p0_seeker_allMet : Int64) (s_p0_seeker_depth : Int32) (s_p0_seeker_tryCount : Int32) (s_p0_seeker_isSpent : Int32) (s_p0_seeker_foundCount : Int32) (s_p0_seeker_foundSet : Int64) (s_p0_seeker_left : Nat → Int64) (s_p0_seeker_met : Nat → Int64) (s_p0_seeker_taken : Nat → Int64) (s_p0_worlds : Nat → Option Nat) (o_W : Nat) (Q : Int32 → (Int32) → (Int32) → (Int64) → (Nat → Int32) → (Int64) → (Int32) → (Int32) → (Int32) → (Int32) → (Int64) → (Nat → Int64) → (Nat → Int64) → (Nat → Int64) → Prop) : Prop := (Q (-1 : Int32) s_p0_latestFinding s_p0_latestTries s_p0_latestAsked s_p0_findingTimes s_p0_seeker_allMet s_p0_seeker_depth s_p0_seeker_tryCount s_p0_seeker_isSpent s_p0_seeker_foundCount s_p0_seeker_foundSet s_p0_seeker_left s_p0_seeker_met s_p0_seeker_taken)
def w_X6_spread (x_1 : Int32) (x_2 : Int32) (s_p0_latestFinding : Int32) (s_p0_latestTries : Int32) (s_p0_latestAsked : Int64) (s_W_there : Int32) (s_W_size : Int32) (s_W_sets : Nat → Int64) (s_W_through : Nat → Int64) (s_p0_findingTimes : Nat → Int32) (s_p0_seeker_allMet : Int64) (s_p0_seeker_depth : Int32) (s_p0_seeker_tryCount : Int32) (s_p0_seeker_isSpent : Int32) (s_p0_seeker_foundCount : Int32) (s_p0_seeker_foundSet : Int64) (s_p0_seeker_left : Nat → Int64) (s_p0_seeker_met : Nat → Int64) (s_p0_seeker_taken : Nat → Int64) (s_p0_worlds : Nat → Option Nat) (o_W : Nat) (Q : Int32 → (Int32) → (Int32) → (Int64) → (Nat → Int32) → (Int64) → (Int32) → (Int32) → (Int32) → (Int32) → (Int64) → (Nat → Int64) → (Nat → Int64) → (Nat → Int64) → Prop) : Prop := (w_X6_isWorldNumber x_1 (fun (r_1 : Int32) => ((r_1 = 0 → (w_X6_spread_14 s_p0_latestFinding s_p0_latestTries s_p0_latestAsked s_W_there s_W_size s_W_sets s_W_through s_p0_findingTimes s_p0_seeker_allMet s_p0_seeker_depth s_p0_seeker_tryCount s_p0_seeker_isSpent s_p0_seeker_foundCount s_p0_seeker_foundSet s_p0_seeker_left s_p0_seeker_met s_p0_seeker_taken s_p0_worlds o_W Q)) ∧ (¬ r_1 = 0 → (w_X6_isNumberOfTries x_2 (fun (r_8 : Int32) => ((¬ r_8 = 0 → (vp_in x_1 6 ∧ s_p0_worlds (x_1).toNatClampNeg = some o_W ∧ ((¬ s_W_there = 0 → (w_X4_seek s_W_size x_2 (0 : Int32) s_p0_seeker_allMet s_p0_seeker_depth s_p0_seeker_tryCount s_p0_seeker_isSpent s_p0_seeker_foundCount s_p0_seeker_foundSet s_p0_seeker_left s_p0_seeker_met s_p0_seeker_taken s_W_through s_W_sets (fun (u_54_0 : Int64) (u_54_1 : Int32) (u_54_2 : Int32) (u_54_3 : Int32) (u_54_4 : Int32) (u_54_5 : Int64) (u_54_6 : Nat → Int64) (u_54_7 : Nat → Int64) (u_54_8 : Nat → Int64) => (w_X6_firstFound s_p0_latestTries s_p0_latestAsked u_54_2 u_54_3 u_54_4 u_54_5 (fun (r_58 : Int32) (u_58_0 : Int32) (u_58_1 : Int64) => (Q r_58 s_p0_latestFinding u_58_0 u_58_1 s_p0_findingTimes u_54_0 u_54_1 u_54_2 u_54_3 u_54_4 u_54_5 u_54_6 u_54_7 u_54_8)))))) ∧ (s_W_there = 0 → (w_X6_refused (1 : Int32) s_p0_latestFinding s_p0_findingTimes (fun (r_32 : Int32) (u_32_0 : Int32) (u_32_1 : Nat → Int32) => (Q r_32 u_32_0 s_p0_latestTries s_p0_latestAsked u_32_1 s_p0_seeker_allMet s_p0_seeker_depth s_p0_seeker_tryCount s_p0_seeker_isSpent s_p0_seeker_foundCount s_p0_seeker_foundSet s_p0_seeker_left s_p0_seeker_met s_p0_seeker_taken))))))) ∧ (r_8 = 0 → (w_X6_spread_14 s_p0_latestFinding s_p0_latestTries s_p0_latestAsked s_W_there s_W_size s_W_sets s_W_through s_p0_findingTimes s_p0_seeker_allMet s_p0_seeker_depth s_p0_seeker_tryCount s_p0_seeker_isSpent s_p0_seeker_foundCount s_p0_seeker_foundSet s_p0_seeker_left s_p0_seeker_met s_p0_seeker_taken s_p0_worlds o_W Q)))))))))
-- X6_spread
theorem iX6_spread_X5 : ∀ w ∈ wsX50, w ∈ wsX6_spread := by decide +kernel
theorem iX6_spread_X6 : ∀ w ∈ wsX60, w ∈ wsX6_spread := by decide +kernel
set_option maxHeartbeats 4000000 in
set_option maxRecDepth 100000 in
theorem k_X6_spread_14 {E : vE} {T : Nat → ClassId} {o_p0 : Nat} {a_p0 : Nat → Nat} {o_S : Nat} {o_W : Nat} {a_W : Nat → Nat} {a_p0_seeker : Nat → Nat} {s_p0_sentSize : Int32} {s_p0_latestFinding : Int32} {s_p0_latestTries : Int32} {s_p0_latestAsked : Int64} {s_W_there : Int32} {s_W_kind : Int32} {s_W_tag : Int32} {s_W_size : Int32} {s_W_lineCount : Int32} {s_W_sets : Nat → Int64} {s_W_through : Nat → Int64} {s_p0_findingTimes : Nat → Int32} {s_p0_seeker_allMet : Int64} {s_p0_seeker_depth : Int32} {s_p0_seeker_tryCount : Int32} {s_p0_seeker_isSpent : Int32} {s_p0_seeker_foundCount : Int32} {s_p0_seeker_foundSet : Int64} {s_p0_seeker_left : Nat → Int64} {s_p0_seeker_met : Nat → Int64} {s_p0_seeker_taken : Nat → Int64} {s_p0_worlds : Nat → Option Nat} {Q : Int32 → (Int32) → (Int32) → (Int64) → (Nat → Int32) → (Int64) → (Int32) → (Int32) → (Int32) → (Int32) → (Int64) → (Nat → Int64) → (Nat → Int64) → (Nat → Int64) → Prop} (X : vX E cX6_spread 4 RX6 wsX6_spread (vT T) (vr 5 115)) (r : r_X6_spread E T o_p0 a_p0 o_S o_W a_W a_p0_seeker s_p0_sentSize s_W_there s_W_kind s_W_tag s_W_size s_W_lineCount s_W_sets s_W_through s_p0_worlds Q) (h : w_X6_spread_14 s_p0_latestFinding s_p0_latestTries s_p0_latestAsked s_W_there s_W_size s_W_sets s_W_through s_p0_findingTimes s_p0_seeker_allMet s_p0_seeker_depth s_p0_seeker_tryCount s_p0_seeker_isSpent s_p0_seeker_foundCount s_p0_seeker_foundSet s_p0_seeker_left s_p0_seeker_met s_p0_seeker_taken s_p0_worlds o_W Q) : V E 0 0 14 [] [] (cl_X6_spread T o_p0 a_p0 o_S o_W a_W a_p0_seeker s_p0_sentSize s_p0_latestFinding s_p0_latestTries s_p0_latestAsked s_W_there s_W_kind s_W_tag s_W_size s_W_lineCount s_W_sets s_W_through s_p0_findingTimes s_p0_seeker_allMet s_p0_seeker_depth s_p0_seeker_tryCount s_p0_seeker_isSpent s_p0_seeker_foundCount s_p0_seeker_foundSet s_p0_seeker_left s_p0_seeker_met s_p0_seeker_taken s_p0_worlds) := by
  unfold w_X6_spread_14 at h
  refine v_iconst X dX6_spread_14 (v := (-1 : Int32)) (by decide) ?_
  exact r _ _ _ (s_p0_latestFinding, s_p0_latestTries, s_p0_latestAsked, s_p0_findingTimes, s_p0_seeker_allMet, s_p0_seeker_depth, s_p0_seeker_tryCount, s_p0_seeker_isSpent, s_p0_seeker_foundCount, s_p0_seeker_foundSet, s_p0_seeker_left, s_p0_seeker_met, s_p0_seeker_taken) _ dX6_spread_15 h rfl
set_option maxHeartbeats 4000000 in
set_option maxRecDepth 100000 in
theorem c_X6_spread {l : Launch} {D : va_G} {T : Nat → ClassId} {o_p0 : Nat} {a_p0 : Nat → Nat} {o_S : Nat} {o_W : Nat} {a_W : Nat → Nat} {a_p0_seeker : Nat → Nat} {s_p0_sentSize : Int32} {s_p0_latestFinding : Int32} {s_p0_latestTries : Int32} {s_p0_latestAsked : Int64} {s_W_there : Int32} {s_W_kind : Int32} {s_W_tag : Int32} {s_W_size : Int32} {s_W_lineCount : Int32} {s_W_sets : Nat → Int64} {s_W_through : Nat → Int64} {s_p0_findingTimes : Nat → Int32} {s_p0_seeker_allMet : Int64} {s_p0_seeker_depth : Int32} {s_p0_seeker_tryCount : Int32} {s_p0_seeker_isSpent : Int32} {s_p0_seeker_foundCount : Int32} {s_p0_seeker_foundSet : Int64} {s_p0_seeker_left : Nat → Int64} {s_p0_seeker_met : Nat → Int64} {s_p0_seeker_taken : Nat → Int64} {s_p0_worlds : Nat → Option Nat} {x_1 : Int32} {x_2 : Int32} {Q : Int32 → (Int32) → (Int32) → (Int64) → (Nat → Int32) → (Int64) → (Int32) → (Int32) → (Int32) → (Int32) → (Int64) → (Nat → Int64) → (Nat → Int64) → (Nat → Int64) → Prop} (h : w_X6_spread x_1 x_2 s_p0_latestFinding s_p0_latestTries s_p0_latestAsked s_W_there s_W_size s_W_sets s_W_through s_p0_findingTimes s_p0_seeker_allMet s_p0_seeker_depth s_p0_seeker_tryCount s_p0_seeker_isSpent s_p0_seeker_foundCount s_p0_seeker_foundSet s_p0_seeker_left s_p0_seeker_met s_p0_seeker_taken s_p0_worlds o_W Q) : vCi l D (vT T) yX6_spread wsX6_spread (vr 5 115) [.ref o_p0, .int x_1, .int x_2] (cl_X6_spread T o_p0 a_p0 o_S o_W a_W a_p0_seeker s_p0_sentSize s_p0_latestFinding s_p0_latestTries s_p0_latestAsked s_W_there s_W_kind s_W_tag s_W_size s_W_lineCount s_W_sets s_W_through s_p0_findingTimes s_p0_seeker_allMet s_p0_seeker_depth s_p0_seeker_tryCount s_p0_seeker_isSpent s_p0_seeker_foundCount s_p0_seeker_foundSet s_p0_seeker_left s_p0_seeker_met s_p0_seeker_taken s_p0_worlds) (fun v (u : (Int32) × (Int32) × (Int64) × (Nat → Int32) × (Int64) × (Int32) × (Int32) × (Int32) × (Int32) × (Int64) × (Nat → Int64) × (Nat → Int64) × (Nat → Int64)) => Q v u.1 u.2.1 u.2.2.1 u.2.2.2.1 u.2.2.2.2.1 u.2.2.2.2.2.1 u.2.2.2.2.2.2.1 u.2.2.2.2.2.2.2.1 u.2.2.2.2.2.2.2.2.1 u.2.2.2.2.2.2.2.2.2.1 u.2.2.2.2.2.2.2.2.2.2.1 u.2.2.2.2.2.2.2.2.2.2.2.1 u.2.2.2.2.2.2.2.2.2.2.2.2) (fun (u : (Int32) × (Int32) × (Int64) × (Nat → Int32) × (Int64) × (Int32) × (Int32) × (Int32) × (Int32) × (Int64) × (Nat → Int64) × (Nat → Int64) × (Nat → Int64)) => (cl_X6_spread T o_p0 a_p0 o_S o_W a_W a_p0_seeker s_p0_sentSize u.1 u.2.1 u.2.2.1 s_W_there s_W_kind s_W_tag s_W_size s_W_lineCount s_W_sets s_W_through u.2.2.2.1 u.2.2.2.2.1 u.2.2.2.2.2.1 u.2.2.2.2.2.2.1 u.2.2.2.2.2.2.2.1 u.2.2.2.2.2.2.2.2.1 u.2.2.2.2.2.2.2.2.2.1 u.2.2.2.2.2.2.2.2.2.2.1 u.2.2.2.2.2.2.2.2.2.2.2.1 u.2.2.2.2.2.2.2.2.2.2.2.2 s_p0_worlds)) := by
  refine vC_i (cc := cX6_spread) (nL := 4) (by decide +kernel) rfl ⟨rfl, rfl⟩ (Nat.le_of_ble_eq_true rfl) rfl ?_
  intro E el eD X r
  unfold w_X6_spread at h
  refine v_iload_n X 1 dX6_spread_0 rfl rfl ?_
  refine v_callSi0 X (As := [.int x_1]) (rest := []) 1 (c_X6_isWorldNumber (l := vl E) (D := vD E) (T := T) (x_0 := x_1) h) gX6_spread_X6_isWorldNumber rfl rfl (by decide +kernel) ⟨Nat.zero_le _, Nat.zero_le _⟩ ⟨rfl, rfl, by decide, by decide⟩ (Nat.le_of_ble_eq_true rfl) rfl dX6_spread_1 (fun r_1 h => ?_)
  refine v_if_eq X (tgt := 14) dX6_spread_4 (by decide) (fun c_4 => ?_) (fun c_4 => ?_)
  · replace h := h.1 c_4
    refine v_lv (lv' := []) [] rfl ?_
    exact k_X6_spread_14 X r h
  · replace h := h.2 c_4
    refine v_iload_n X 2 dX6_spread_7 rfl rfl ?_
    refine v_callSi0 X (As := [.int x_2]) (rest := []) 1 (c_X6_isNumberOfTries (l := vl E) (D := vD E) (T := T) (x_0 := x_2) h) gX6_spread_X6_isNumberOfTries rfl rfl (by decide +kernel) ⟨Nat.zero_le _, Nat.zero_le _⟩ ⟨rfl, rfl, by decide, by decide⟩ (Nat.le_of_ble_eq_true rfl) rfl dX6_spread_8 (fun r_8 h => ?_)
    refine v_if_ne X (tgt := 16) dX6_spread_11 (by decide) (fun c_11 => ?_) (fun c_11 => ?_)
    · replace h := h.1 c_11
      refine v_aload_n X 0 dX6_spread_16 rfl rfl ?_
      refine v_get X 0 0 (F := TX6) (N := 13) iX6_spread_X6 rfl rfl (by decide) (List.mem_of_getElem? (i := 1) rfl) rfl rfl dX6_spread_17 ?_
      refine v_iload_n X 1 dX6_spread_20 rfl rfl ?_
      refine v_aald X 9 2 rfl rfl h.1 h.2.1 dX6_spread_21 ?_
      replace h := h.2.2
      refine v_astore_n X (lv' := [(3, .ref o_W), (0, .ref o_p0), (1, .int x_1), (2, .int x_2)]) dX6_spread_22 rfl (by decide) rfl ?_
      refine v_aload_n X 0 dX6_spread_23 rfl rfl ?_
      refine v_getN X 1 3 (F := TX5) (N := 8) iX6_spread_X5 rfl rfl (by decide) (List.mem_of_getElem? (i := 23) rfl) rfl rfl dX6_spread_24 ?_
      refine v_if_ne X (tgt := 36) dX6_spread_27 (by decide) (fun c_27 => ?_) (fun c_27 => ?_)
      · replace h := h.1 c_27
        refine v_aload_n X 1 dX6_spread_36 rfl rfl ?_
        refine v_get X 0 6 (F := TX6) (N := 13) iX6_spread_X6 rfl rfl (by decide) (List.mem_of_getElem? (i := 2) rfl) rfl rfl dX6_spread_37 ?_
        refine v_aload_n X 0 dX6_spread_40 rfl rfl ?_
        refine v_getN X 1 6 (F := TX5) (N := 8) iX6_spread_X5 rfl rfl (by decide) (List.mem_of_getElem? (i := 29) rfl) rfl rfl dX6_spread_41 ?_
        refine v_aload_n X 0 dX6_spread_44 rfl rfl ?_
        refine v_getN X 1 1 (F := TX5) (N := 8) iX6_spread_X5 rfl rfl (by decide) (List.mem_of_getElem? (i := 19) rfl) rfl rfl dX6_spread_45 ?_
        refine v_aload_n X 0 dX6_spread_48 rfl rfl ?_
        refine v_getN X 1 0 (F := TX5) (N := 8) iX6_spread_X5 rfl rfl (by decide) (List.mem_of_getElem? (i := 15) rfl) rfl rfl dX6_spread_49 ?_
        refine v_iload_n X 3 dX6_spread_52 rfl rfl ?_
        refine v_iconst X dX6_spread_53 (v := (0 : Int32)) (by decide) ?_
        refine v_callVv X (As := [.int s_W_size, .ref (a_W 1), .ref (a_W 0), .int x_2, .int (0 : Int32)]) (rest := []) 5 0 (c_X4_seek (l := vl E) (D := vD E) (T := T) (o_p0 := (a_p0 6)) (a_p0 := a_p0_seeker) (o_p2 := (a_W 1)) (o_p3 := (a_W 0)) (s_p0_allMet := s_p0_seeker_allMet) (s_p0_depth := s_p0_seeker_depth) (s_p0_tryCount := s_p0_seeker_tryCount) (s_p0_isSpent := s_p0_seeker_isSpent) (s_p0_foundCount := s_p0_seeker_foundCount) (s_p0_foundSet := s_p0_seeker_foundSet) (s_p0_left := s_p0_seeker_left) (s_p0_met := s_p0_seeker_met) (s_p0_taken := s_p0_seeker_taken) (s_p2 := s_W_through) (s_p3 := s_W_sets) (x_1 := s_W_size) (x_4 := x_2) (x_5 := (0 : Int32)) h) gX6_spread_X4_seek rfl rfl (by decide +kernel) ⟨Nat.zero_le _, Nat.zero_le _⟩ ⟨rfl, rfl, by decide, by decide⟩ (Nat.le_of_ble_eq_true rfl) rfl rfl (wr := [vO o_p0 3 [.ref (a_p0 0), .ref (a_p0 1), .ref (a_p0 2), .ref (a_p0 3), .ref (a_p0 4), .ref (a_p0 5), .ref (a_p0 6), .ref (a_p0 7), .ref o_S, .int s_p0_sentSize, .int s_p0_latestFinding, .int s_p0_latestTries, .long s_p0_latestAsked], vO o_W 2 [.ref (a_W 0), .ref (a_W 1), .ref (a_W 2), .int s_W_there, .int s_W_kind, .int s_W_tag, .int s_W_size, .int s_W_lineCount], vI T (a_p0 3) 6 s_p0_findingTimes, vR T 2 (a_p0 0) 6 s_p0_worlds]) [5, 6, 7, 8, 3, 2] [0, 1, 4, 9] rfl rfl rfl rfl (by decide) rfl dX6_spread_54 (fun u h => ?_)
        obtain ⟨u_54_0, u_54_1, u_54_2, u_54_3, u_54_4, u_54_5, u_54_6, u_54_7, u_54_8⟩ := u
        dsimp only at h
        refine v_ws (ws' := (cl_X6_spread T o_p0 a_p0 o_S o_W a_W a_p0_seeker s_p0_sentSize s_p0_latestFinding s_p0_latestTries s_p0_latestAsked s_W_there s_W_kind s_W_tag s_W_size s_W_lineCount s_W_sets s_W_through s_p0_findingTimes u_54_0 u_54_1 u_54_2 u_54_3 u_54_4 u_54_5 u_54_6 u_54_7 u_54_8 s_p0_worlds)) [0, 1, 9, 8, 2, 4, 5, 6, 7, 3] rfl rfl ?_
        refine v_aload_n X 1 dX6_spread_57 rfl rfl ?_
        refine v_callVi X (As := []) (rest := []) 0 0 (c_X6_firstFound (l := vl E) (D := vD E) (T := T) (o_p0 := o_p0) (a_p0 := a_p0) (o_S := o_S) (a_p0_seeker := a_p0_seeker) (s_p0_sentSize := s_p0_sentSize) (s_p0_latestFinding := s_p0_latestFinding) (s_p0_latestTries := s_p0_latestTries) (s_p0_latestAsked := s_p0_latestAsked) (s_p0_seeker_allMet := u_54_0) (s_p0_seeker_depth := u_54_1) (s_p0_seeker_tryCount := u_54_2) (s_p0_seeker_isSpent := u_54_3) (s_p0_seeker_foundCount := u_54_4) (s_p0_seeker_foundSet := u_54_5) h) gX6_spread_X6_firstFound rfl rfl (by decide +kernel) ⟨Nat.zero_le _, Nat.zero_le _⟩ ⟨rfl, rfl, by decide, by decide⟩ (Nat.le_of_ble_eq_true rfl) rfl rfl (wr := [vO o_W 2 [.ref (a_W 0), .ref (a_W 1), .ref (a_W 2), .int s_W_there, .int s_W_kind, .int s_W_tag, .int s_W_size, .int s_W_lineCount], vJ T (a_W 0) 45 s_W_sets, vJ T (a_W 1) 45 s_W_through, vI T (a_p0 3) 6 s_p0_findingTimes, vJ T (a_p0_seeker 2) 46 u_54_6, vJ T (a_p0_seeker 0) 46 u_54_7, vJ T (a_p0_seeker 1) 46 u_54_8, vR T 2 (a_p0 0) 6 s_p0_worlds]) [0, 5] [1, 2, 3, 4, 6, 7, 8, 9] rfl rfl rfl rfl (by decide) rfl dX6_spread_58 (fun r_58 u h => ?_)
        obtain ⟨u_58_0, u_58_1⟩ := u
        dsimp only at h
        refine v_ws (ws' := (cl_X6_spread T o_p0 a_p0 o_S o_W a_W a_p0_seeker s_p0_sentSize s_p0_latestFinding u_58_0 u_58_1 s_W_there s_W_kind s_W_tag s_W_size s_W_lineCount s_W_sets s_W_through s_p0_findingTimes u_54_0 u_54_1 u_54_2 u_54_3 u_54_4 u_54_5 u_54_6 u_54_7 u_54_8 s_p0_worlds)) [8, 0, 1, 2, 3, 9, 4, 5, 6, 7] rfl rfl ?_
        exact r _ _ _ (s_p0_latestFinding, u_58_0, u_58_1, s_p0_findingTimes, u_54_0, u_54_1, u_54_2, u_54_3, u_54_4, u_54_5, u_54_6, u_54_7, u_54_8) _ dX6_spread_61 h rfl
      · replace h := h.2 c_27
        refine v_aload_n X 1 dX6_spread_30 rfl rfl ?_
        refine v_iconst X dX6_spread_31 (v := (1 : Int32)) (by decide) ?_
        refine v_callVi X (As := [.int (1 : Int32)]) (rest := []) 1 0 (c_X6_refused (l := vl E) (D := vD E) (T := T) (o_p0 := o_p0) (a_p0 := a_p0) (o_S := o_S) (s_p0_sentSize := s_p0_sentSize) (s_p0_latestFinding := s_p0_latestFinding) (s_p0_latestTries := s_p0_latestTries) (s_p0_latestAsked := s_p0_latestAsked) (s_p0_findingTimes := s_p0_findingTimes) (x_1 := (1 : Int32)) h) gX6_spread_X6_refused rfl rfl (by decide +kernel) ⟨Nat.zero_le _, Nat.zero_le _⟩ ⟨rfl, rfl, by decide, by decide⟩ (Nat.le_of_ble_eq_true rfl) rfl rfl (wr := [vO o_W 2 [.ref (a_W 0), .ref (a_W 1), .ref (a_W 2), .int s_W_there, .int s_W_kind, .int s_W_tag, .int s_W_size, .int s_W_lineCount], vJ T (a_W 0) 45 s_W_sets, vJ T (a_W 1) 45 s_W_through, vO (a_p0 6) 1 [.ref (a_p0_seeker 0), .ref (a_p0_seeker 1), .ref (a_p0_seeker 2), .long s_p0_seeker_allMet, .int s_p0_seeker_depth, .int s_p0_seeker_tryCount, .int s_p0_seeker_isSpent, .int s_p0_seeker_foundCount, .long s_p0_seeker_foundSet], vJ T (a_p0_seeker 2) 46 s_p0_seeker_left, vJ T (a_p0_seeker 0) 46 s_p0_seeker_met, vJ T (a_p0_seeker 1) 46 s_p0_seeker_taken, vR T 2 (a_p0 0) 6 s_p0_worlds]) [0, 4] [1, 2, 3, 5, 6, 7, 8, 9] rfl rfl rfl rfl (by decide) rfl dX6_spread_32 (fun r_32 u h => ?_)
        obtain ⟨u_32_0, u_32_1⟩ := u
        dsimp only at h
        refine v_ws (ws' := (cl_X6_spread T o_p0 a_p0 o_S o_W a_W a_p0_seeker s_p0_sentSize u_32_0 s_p0_latestTries s_p0_latestAsked s_W_there s_W_kind s_W_tag s_W_size s_W_lineCount s_W_sets s_W_through u_32_1 s_p0_seeker_allMet s_p0_seeker_depth s_p0_seeker_tryCount s_p0_seeker_isSpent s_p0_seeker_foundCount s_p0_seeker_foundSet s_p0_seeker_left s_p0_seeker_met s_p0_seeker_taken s_p0_worlds)) [8, 0, 1, 2, 9, 3, 4, 5, 6, 7] rfl rfl ?_
        exact r _ _ _ (u_32_0, s_p0_latestTries, s_p0_latestAsked, u_32_1, s_p0_seeker_allMet, s_p0_seeker_depth, s_p0_seeker_tryCount, s_p0_seeker_isSpent, s_p0_seeker_foundCount, s_p0_seeker_foundSet, s_p0_seeker_left, s_p0_seeker_met, s_p0_seeker_taken) _ dX6_spread_35 h rfl
    · replace h := h.2 c_11
      refine v_lv (lv' := []) [] rfl ?_
      exact k_X6_spread_14 X r h
-- X6_ovoids
abbrev cl_X6_ovoids (T : Nat → ClassId) (o_p0 : Nat) (a_p0 : Nat → Nat) (o_S : Nat) (o_W : Nat) (a_W : Nat → Nat) (a_p0_seeker : Nat → Nat) (s_p0_sentSize : Int32) (s_p0_latestFinding : Int32) (s_p0_latestTries : Int32) (s_p0_latestAsked : Int64) (s_W_there : Int32) (s_W_kind : Int32) (s_W_tag : Int32) (s_W_size : Int32) (s_W_lineCount : Int32) (s_W_sets : Nat → Int64) (s_W_through : Nat → Int64) (s_p0_findingTimes : Nat → Int32) (s_p0_seeker_allMet : Int64) (s_p0_seeker_depth : Int32) (s_p0_seeker_tryCount : Int32) (s_p0_seeker_isSpent : Int32) (s_p0_seeker_foundCount : Int32) (s_p0_seeker_foundSet : Int64) (s_p0_seeker_left : Nat → Int64) (s_p0_seeker_met : Nat → Int64) (s_p0_seeker_taken : Nat → Int64) (s_p0_worlds : Nat → Option Nat) : va_W := [vO o_p0 3 [.ref (a_p0 0), .ref (a_p0 1), .ref (a_p0 2), .ref (a_p0 3), .ref (a_p0 4), .ref (a_p0 5), .ref (a_p0 6), .ref (a_p0 7), .ref o_S, .int s_p0_sentSize, .int s_p0_latestFinding, .int s_p0_latestTries, .long s_p0_latestAsked], vO o_W 2 [.ref (a_W 0), .ref (a_W 1), .ref (a_W 2), .int s_W_there, .int s_W_kind, .int s_W_tag, .int s_W_size, .int s_W_lineCount], vJ T (a_W 0) 45 s_W_sets, vJ T (a_W 1) 45 s_W_through, vI T (a_p0 3) 6 s_p0_findingTimes, vO (a_p0 6) 1 [.ref (a_p0_seeker 0), .ref (a_p0_seeker 1), .ref (a_p0_seeker 2), .long s_p0_seeker_allMet, .int s_p0_seeker_depth, .int s_p0_seeker_tryCount, .int s_p0_seeker_isSpent, .int s_p0_seeker_foundCount, .long s_p0_seeker_foundSet], vJ T (a_p0_seeker 2) 46 s_p0_seeker_left, vJ T (a_p0_seeker 0) 46 s_p0_seeker_met, vJ T (a_p0_seeker 1) 46 s_p0_seeker_taken, vR T 2 (a_p0 0) 6 s_p0_worlds]
abbrev r_X6_ovoids (E : vE) (T : Nat → ClassId) (o_p0 : Nat) (a_p0 : Nat → Nat) (o_S : Nat) (o_W : Nat) (a_W : Nat → Nat) (a_p0_seeker : Nat → Nat) (s_p0_sentSize : Int32) (s_W_there : Int32) (s_W_kind : Int32) (s_W_tag : Int32) (s_W_size : Int32) (s_W_lineCount : Int32) (s_W_sets : Nat → Int64) (s_W_through : Nat → Int64) (s_p0_worlds : Nat → Option Nat) (Q : Int32 → (Int32) → (Int32) → (Int64) → (Nat → Int32) → (Int64) → (Int32) → (Int32) → (Int32) → (Int32) → (Int64) → (Nat → Int64) → (Nat → Int64) → (Nat → Int64) → Prop) : Prop := vRi E cX6_ovoids (fun v (u : (Int32) × (Int32) × (Int64) × (Nat → Int32) × (Int64) × (Int32) × (Int32) × (Int32) × (Int32) × (Int64) × (Nat → Int64) × (Nat → Int64) × (Nat → Int64)) => Q v u.1 u.2.1 u.2.2.1 u.2.2.2.1 u.2.2.2.2.1 u.2.2.2.2.2.1 u.2.2.2.2.2.2.1 u.2.2.2.2.2.2.2.1 u.2.2.2.2.2.2.2.2.1 u.2.2.2.2.2.2.2.2.2.1 u.2.2.2.2.2.2.2.2.2.2.1 u.2.2.2.2.2.2.2.2.2.2.2.1 u.2.2.2.2.2.2.2.2.2.2.2.2) (fun (u : (Int32) × (Int32) × (Int64) × (Nat → Int32) × (Int64) × (Int32) × (Int32) × (Int32) × (Int32) × (Int64) × (Nat → Int64) × (Nat → Int64) × (Nat → Int64)) => (cl_X6_ovoids T o_p0 a_p0 o_S o_W a_W a_p0_seeker s_p0_sentSize u.1 u.2.1 u.2.2.1 s_W_there s_W_kind s_W_tag s_W_size s_W_lineCount s_W_sets s_W_through u.2.2.2.1 u.2.2.2.2.1 u.2.2.2.2.2.1 u.2.2.2.2.2.2.1 u.2.2.2.2.2.2.2.1 u.2.2.2.2.2.2.2.2.1 u.2.2.2.2.2.2.2.2.2.1 u.2.2.2.2.2.2.2.2.2.2.1 u.2.2.2.2.2.2.2.2.2.2.2.1 u.2.2.2.2.2.2.2.2.2.2.2.2 s_p0_worlds))
def w_X6_ovoids_14 (s_p0_latestFinding : Int32) (s_p0_latestTries : Int32) (s_p0_latestAsked : Int64) (s_W_there : Int32) (s_W_lineCount : Int32) (s_W_sets : Nat → Int64) (s_W_through : Nat → Int64) (s_p0_findingTimes : Nat → Int32) (s_p0_seeker_allMet : Int64) (s_p0_seeker_depth : Int32) (s_p0_seeker_tryCount : Int32) (s_p0_seeker_isSpent : Int32) (s_p0_seeker_foundCount : Int32) (s_p0_seeker_foundSet : Int64) (s_p0_seeker_left : Nat → Int64) (s_p0_seeker_met : Nat → Int64) (s_p0_seeker_taken : Nat → Int64) (s_p0_worlds : Nat → Option Nat) (o_W : Nat) (Q : Int32 → (Int32) → (Int32) → (Int64) → (Nat → Int32) → (Int64) → (Int32) → (Int32) → (Int32) → (Int32) → (Int64) → (Nat → Int64) → (Nat → Int64) → (Nat → Int64) → Prop) : Prop := (Q (-1 : Int32) s_p0_latestFinding s_p0_latestTries s_p0_latestAsked s_p0_findingTimes s_p0_seeker_allMet s_p0_seeker_depth s_p0_seeker_tryCount s_p0_seeker_isSpent s_p0_seeker_foundCount s_p0_seeker_foundSet s_p0_seeker_left s_p0_seeker_met s_p0_seeker_taken)
def w_X6_ovoids (x_1 : Int32) (x_2 : Int32) (s_p0_latestFinding : Int32) (s_p0_latestTries : Int32) (s_p0_latestAsked : Int64) (s_W_there : Int32) (s_W_lineCount : Int32) (s_W_sets : Nat → Int64) (s_W_through : Nat → Int64) (s_p0_findingTimes : Nat → Int32) (s_p0_seeker_allMet : Int64) (s_p0_seeker_depth : Int32) (s_p0_seeker_tryCount : Int32) (s_p0_seeker_isSpent : Int32) (s_p0_seeker_foundCount : Int32) (s_p0_seeker_foundSet : Int64) (s_p0_seeker_left : Nat → Int64) (s_p0_seeker_met : Nat → Int64) (s_p0_seeker_taken : Nat → Int64) (s_p0_worlds : Nat → Option Nat) (o_W : Nat) (Q : Int32 → (Int32) → (Int32) → (Int64) → (Nat → Int32) → (Int64) → (Int32) → (Int32) → (Int32) → (Int32) → (Int64) → (Nat → Int64) → (Nat → Int64) → (Nat → Int64) → Prop) : Prop := (w_X6_isWorldNumber x_1 (fun (r_1 : Int32) => ((r_1 = 0 → (w_X6_ovoids_14 s_p0_latestFinding s_p0_latestTries s_p0_latestAsked s_W_there s_W_lineCount s_W_sets s_W_through s_p0_findingTimes s_p0_seeker_allMet s_p0_seeker_depth s_p0_seeker_tryCount s_p0_seeker_isSpent s_p0_seeker_foundCount s_p0_seeker_foundSet s_p0_seeker_left s_p0_seeker_met s_p0_seeker_taken s_p0_worlds o_W Q)) ∧ (¬ r_1 = 0 → (w_X6_isNumberOfTries x_2 (fun (r_8 : Int32) => ((¬ r_8 = 0 → (vp_in x_1 6 ∧ s_p0_worlds (x_1).toNatClampNeg = some o_W ∧ ((¬ s_W_there = 0 → (w_X4_seek s_W_lineCount x_2 (1 : Int32) s_p0_seeker_allMet s_p0_seeker_depth s_p0_seeker_tryCount s_p0_seeker_isSpent s_p0_seeker_foundCount s_p0_seeker_foundSet s_p0_seeker_left s_p0_seeker_met s_p0_seeker_taken s_W_sets s_W_through (fun (u_54_0 : Int64) (u_54_1 : Int32) (u_54_2 : Int32) (u_54_3 : Int32) (u_54_4 : Int32) (u_54_5 : Int64) (u_54_6 : Nat → Int64) (u_54_7 : Nat → Int64) (u_54_8 : Nat → Int64) => ((u_54_3 = 0 → (Q (1 : Int32) s_p0_latestFinding u_54_2 (u_54_4).toInt64 s_p0_findingTimes u_54_0 u_54_1 u_54_2 u_54_3 u_54_4 u_54_5 u_54_6 u_54_7 u_54_8)) ∧ (¬ u_54_3 = 0 → (Q (-6 : Int32) s_p0_latestFinding u_54_2 s_p0_latestAsked s_p0_findingTimes u_54_0 u_54_1 u_54_2 u_54_3 u_54_4 u_54_5 u_54_6 u_54_7 u_54_8)))))) ∧ (s_W_there = 0 → (w_X6_refused (1 : Int32) s_p0_latestFinding s_p0_findingTimes (fun (r_32 : Int32) (u_32_0 : Int32) (u_32_1 : Nat → Int32) => (Q r_32 u_32_0 s_p0_latestTries s_p0_latestAsked u_32_1 s_p0_seeker_allMet s_p0_seeker_depth s_p0_seeker_tryCount s_p0_seeker_isSpent s_p0_seeker_foundCount s_p0_seeker_foundSet s_p0_seeker_left s_p0_seeker_met s_p0_seeker_taken))))))) ∧ (r_8 = 0 → (w_X6_ovoids_14 s_p0_latestFinding s_p0_latestTries s_p0_latestAsked s_W_there s_W_lineCount s_W_sets s_W_through s_p0_findingTimes s_p0_seeker_allMet s_p0_seeker_depth s_p0_seeker_tryCount s_p0_seeker_isSpent s_p0_seeker_foundCount s_p0_seeker_foundSet s_p0_seeker_left s_p0_seeker_met s_p0_seeker_taken s_p0_worlds o_W Q)))))))))
-- X6_ovoids
theorem iX6_ovoids_X4 : ∀ w ∈ wsX40, w ∈ wsX6_ovoids := by decide +kernel
theorem iX6_ovoids_X5 : ∀ w ∈ wsX50, w ∈ wsX6_ovoids := by decide +kernel
theorem iX6_ovoids_X6 : ∀ w ∈ wsX60, w ∈ wsX6_ovoids := by decide +kernel
set_option maxHeartbeats 4000000 in
set_option maxRecDepth 100000 in
theorem k_X6_ovoids_14 {E : vE} {T : Nat → ClassId} {o_p0 : Nat} {a_p0 : Nat → Nat} {o_S : Nat} {o_W : Nat} {a_W : Nat → Nat} {a_p0_seeker : Nat → Nat} {s_p0_sentSize : Int32} {s_p0_latestFinding : Int32} {s_p0_latestTries : Int32} {s_p0_latestAsked : Int64} {s_W_there : Int32} {s_W_kind : Int32} {s_W_tag : Int32} {s_W_size : Int32} {s_W_lineCount : Int32} {s_W_sets : Nat → Int64} {s_W_through : Nat → Int64} {s_p0_findingTimes : Nat → Int32} {s_p0_seeker_allMet : Int64} {s_p0_seeker_depth : Int32} {s_p0_seeker_tryCount : Int32} {s_p0_seeker_isSpent : Int32} {s_p0_seeker_foundCount : Int32} {s_p0_seeker_foundSet : Int64} {s_p0_seeker_left : Nat → Int64} {s_p0_seeker_met : Nat → Int64} {s_p0_seeker_taken : Nat → Int64} {s_p0_worlds : Nat → Option Nat} {Q : Int32 → (Int32) → (Int32) → (Int64) → (Nat → Int32) → (Int64) → (Int32) → (Int32) → (Int32) → (Int32) → (Int64) → (Nat → Int64) → (Nat → Int64) → (Nat → Int64) → Prop} (X : vX E cX6_ovoids 4 RX6 wsX6_ovoids (vT T) (vr 5 115)) (r : r_X6_ovoids E T o_p0 a_p0 o_S o_W a_W a_p0_seeker s_p0_sentSize s_W_there s_W_kind s_W_tag s_W_size s_W_lineCount s_W_sets s_W_through s_p0_worlds Q) (h : w_X6_ovoids_14 s_p0_latestFinding s_p0_latestTries s_p0_latestAsked s_W_there s_W_lineCount s_W_sets s_W_through s_p0_findingTimes s_p0_seeker_allMet s_p0_seeker_depth s_p0_seeker_tryCount s_p0_seeker_isSpent s_p0_seeker_foundCount s_p0_seeker_foundSet s_p0_seeker_left s_p0_seeker_met s_p0_seeker_taken s_p0_worlds o_W Q) : V E 0 0 14 [] [] (cl_X6_ovoids T o_p0 a_p0 o_S o_W a_W a_p0_seeker s_p0_sentSize s_p0_latestFinding s_p0_latestTries s_p0_latestAsked s_W_there s_W_kind s_W_tag s_W_size s_W_lineCount s_W_sets s_W_through s_p0_findingTimes s_p0_seeker_allMet s_p0_seeker_depth s_p0_seeker_tryCount s_p0_seeker_isSpent s_p0_seeker_foundCount s_p0_seeker_foundSet s_p0_seeker_left s_p0_seeker_met s_p0_seeker_taken s_p0_worlds) := by
  unfold w_X6_ovoids_14 at h
  refine v_iconst X dX6_ovoids_14 (v := (-1 : Int32)) (by decide) ?_
  exact r _ _ _ (s_p0_latestFinding, s_p0_latestTries, s_p0_latestAsked, s_p0_findingTimes, s_p0_seeker_allMet, s_p0_seeker_depth, s_p0_seeker_tryCount, s_p0_seeker_isSpent, s_p0_seeker_foundCount, s_p0_seeker_foundSet, s_p0_seeker_left, s_p0_seeker_met, s_p0_seeker_taken) _ dX6_ovoids_15 h rfl
set_option maxHeartbeats 4000000 in
set_option maxRecDepth 100000 in
theorem c_X6_ovoids {l : Launch} {D : va_G} {T : Nat → ClassId} {o_p0 : Nat} {a_p0 : Nat → Nat} {o_S : Nat} {o_W : Nat} {a_W : Nat → Nat} {a_p0_seeker : Nat → Nat} {s_p0_sentSize : Int32} {s_p0_latestFinding : Int32} {s_p0_latestTries : Int32} {s_p0_latestAsked : Int64} {s_W_there : Int32} {s_W_kind : Int32} {s_W_tag : Int32} {s_W_size : Int32} {s_W_lineCount : Int32} {s_W_sets : Nat → Int64} {s_W_through : Nat → Int64} {s_p0_findingTimes : Nat → Int32} {s_p0_seeker_allMet : Int64} {s_p0_seeker_depth : Int32} {s_p0_seeker_tryCount : Int32} {s_p0_seeker_isSpent : Int32} {s_p0_seeker_foundCount : Int32} {s_p0_seeker_foundSet : Int64} {s_p0_seeker_left : Nat → Int64} {s_p0_seeker_met : Nat → Int64} {s_p0_seeker_taken : Nat → Int64} {s_p0_worlds : Nat → Option Nat} {x_1 : Int32} {x_2 : Int32} {Q : Int32 → (Int32) → (Int32) → (Int64) → (Nat → Int32) → (Int64) → (Int32) → (Int32) → (Int32) → (Int32) → (Int64) → (Nat → Int64) → (Nat → Int64) → (Nat → Int64) → Prop} (h : w_X6_ovoids x_1 x_2 s_p0_latestFinding s_p0_latestTries s_p0_latestAsked s_W_there s_W_lineCount s_W_sets s_W_through s_p0_findingTimes s_p0_seeker_allMet s_p0_seeker_depth s_p0_seeker_tryCount s_p0_seeker_isSpent s_p0_seeker_foundCount s_p0_seeker_foundSet s_p0_seeker_left s_p0_seeker_met s_p0_seeker_taken s_p0_worlds o_W Q) : vCi l D (vT T) yX6_ovoids wsX6_ovoids (vr 5 115) [.ref o_p0, .int x_1, .int x_2] (cl_X6_ovoids T o_p0 a_p0 o_S o_W a_W a_p0_seeker s_p0_sentSize s_p0_latestFinding s_p0_latestTries s_p0_latestAsked s_W_there s_W_kind s_W_tag s_W_size s_W_lineCount s_W_sets s_W_through s_p0_findingTimes s_p0_seeker_allMet s_p0_seeker_depth s_p0_seeker_tryCount s_p0_seeker_isSpent s_p0_seeker_foundCount s_p0_seeker_foundSet s_p0_seeker_left s_p0_seeker_met s_p0_seeker_taken s_p0_worlds) (fun v (u : (Int32) × (Int32) × (Int64) × (Nat → Int32) × (Int64) × (Int32) × (Int32) × (Int32) × (Int32) × (Int64) × (Nat → Int64) × (Nat → Int64) × (Nat → Int64)) => Q v u.1 u.2.1 u.2.2.1 u.2.2.2.1 u.2.2.2.2.1 u.2.2.2.2.2.1 u.2.2.2.2.2.2.1 u.2.2.2.2.2.2.2.1 u.2.2.2.2.2.2.2.2.1 u.2.2.2.2.2.2.2.2.2.1 u.2.2.2.2.2.2.2.2.2.2.1 u.2.2.2.2.2.2.2.2.2.2.2.1 u.2.2.2.2.2.2.2.2.2.2.2.2) (fun (u : (Int32) × (Int32) × (Int64) × (Nat → Int32) × (Int64) × (Int32) × (Int32) × (Int32) × (Int32) × (Int64) × (Nat → Int64) × (Nat → Int64) × (Nat → Int64)) => (cl_X6_ovoids T o_p0 a_p0 o_S o_W a_W a_p0_seeker s_p0_sentSize u.1 u.2.1 u.2.2.1 s_W_there s_W_kind s_W_tag s_W_size s_W_lineCount s_W_sets s_W_through u.2.2.2.1 u.2.2.2.2.1 u.2.2.2.2.2.1 u.2.2.2.2.2.2.1 u.2.2.2.2.2.2.2.1 u.2.2.2.2.2.2.2.2.1 u.2.2.2.2.2.2.2.2.2.1 u.2.2.2.2.2.2.2.2.2.2.1 u.2.2.2.2.2.2.2.2.2.2.2.1 u.2.2.2.2.2.2.2.2.2.2.2.2 s_p0_worlds)) := by
  refine vC_i (cc := cX6_ovoids) (nL := 4) (by decide +kernel) rfl ⟨rfl, rfl⟩ (Nat.le_of_ble_eq_true rfl) rfl ?_
  intro E el eD X r
  unfold w_X6_ovoids at h
  refine v_iload_n X 1 dX6_ovoids_0 rfl rfl ?_
  refine v_callSi0 X (As := [.int x_1]) (rest := []) 1 (c_X6_isWorldNumber (l := vl E) (D := vD E) (T := T) (x_0 := x_1) h) gX6_ovoids_X6_isWorldNumber rfl rfl (by decide +kernel) ⟨Nat.zero_le _, Nat.zero_le _⟩ ⟨rfl, rfl, by decide, by decide⟩ (Nat.le_of_ble_eq_true rfl) rfl dX6_ovoids_1 (fun r_1 h => ?_)
  refine v_if_eq X (tgt := 14) dX6_ovoids_4 (by decide) (fun c_4 => ?_) (fun c_4 => ?_)
  · replace h := h.1 c_4
    refine v_lv (lv' := []) [] rfl ?_
    exact k_X6_ovoids_14 X r h
  · replace h := h.2 c_4
    refine v_iload_n X 2 dX6_ovoids_7 rfl rfl ?_
    refine v_callSi0 X (As := [.int x_2]) (rest := []) 1 (c_X6_isNumberOfTries (l := vl E) (D := vD E) (T := T) (x_0 := x_2) h) gX6_ovoids_X6_isNumberOfTries rfl rfl (by decide +kernel) ⟨Nat.zero_le _, Nat.zero_le _⟩ ⟨rfl, rfl, by decide, by decide⟩ (Nat.le_of_ble_eq_true rfl) rfl dX6_ovoids_8 (fun r_8 h => ?_)
    refine v_if_ne X (tgt := 16) dX6_ovoids_11 (by decide) (fun c_11 => ?_) (fun c_11 => ?_)
    · replace h := h.1 c_11
      refine v_aload_n X 0 dX6_ovoids_16 rfl rfl ?_
      refine v_get X 0 0 (F := TX6) (N := 13) iX6_ovoids_X6 rfl rfl (by decide) (List.mem_of_getElem? (i := 1) rfl) rfl rfl dX6_ovoids_17 ?_
      refine v_iload_n X 1 dX6_ovoids_20 rfl rfl ?_
      refine v_aald X 9 2 rfl rfl h.1 h.2.1 dX6_ovoids_21 ?_
      replace h := h.2.2
      refine v_astore_n X (lv' := [(3, .ref o_W), (0, .ref o_p0), (1, .int x_1), (2, .int x_2)]) dX6_ovoids_22 rfl (by decide) rfl ?_
      refine v_aload_n X 0 dX6_ovoids_23 rfl rfl ?_
      refine v_getN X 1 3 (F := TX5) (N := 8) iX6_ovoids_X5 rfl rfl (by decide) (List.mem_of_getElem? (i := 23) rfl) rfl rfl dX6_ovoids_24 ?_
      refine v_if_ne X (tgt := 36) dX6_ovoids_27 (by decide) (fun c_27 => ?_) (fun c_27 => ?_)
      · replace h := h.1 c_27
        refine v_aload_n X 1 dX6_ovoids_36 rfl rfl ?_
        refine v_get X 0 6 (F := TX6) (N := 13) iX6_ovoids_X6 rfl rfl (by decide) (List.mem_of_getElem? (i := 2) rfl) rfl rfl dX6_ovoids_37 ?_
        refine v_aload_n X 0 dX6_ovoids_40 rfl rfl ?_
        refine v_getN X 1 7 (F := TX5) (N := 8) iX6_ovoids_X5 rfl rfl (by decide) (List.mem_of_getElem? (i := 33) rfl) rfl rfl dX6_ovoids_41 ?_
        refine v_aload_n X 0 dX6_ovoids_44 rfl rfl ?_
        refine v_getN X 1 0 (F := TX5) (N := 8) iX6_ovoids_X5 rfl rfl (by decide) (List.mem_of_getElem? (i := 15) rfl) rfl rfl dX6_ovoids_45 ?_
        refine v_aload_n X 0 dX6_ovoids_48 rfl rfl ?_
        refine v_getN X 1 1 (F := TX5) (N := 8) iX6_ovoids_X5 rfl rfl (by decide) (List.mem_of_getElem? (i := 19) rfl) rfl rfl dX6_ovoids_49 ?_
        refine v_iload_n X 3 dX6_ovoids_52 rfl rfl ?_
        refine v_iconst X dX6_ovoids_53 (v := (1 : Int32)) (by decide) ?_
        refine v_callVv X (As := [.int s_W_lineCount, .ref (a_W 0), .ref (a_W 1), .int x_2, .int (1 : Int32)]) (rest := []) 5 0 (c_X4_seek (l := vl E) (D := vD E) (T := T) (o_p0 := (a_p0 6)) (a_p0 := a_p0_seeker) (o_p2 := (a_W 0)) (o_p3 := (a_W 1)) (s_p0_allMet := s_p0_seeker_allMet) (s_p0_depth := s_p0_seeker_depth) (s_p0_tryCount := s_p0_seeker_tryCount) (s_p0_isSpent := s_p0_seeker_isSpent) (s_p0_foundCount := s_p0_seeker_foundCount) (s_p0_foundSet := s_p0_seeker_foundSet) (s_p0_left := s_p0_seeker_left) (s_p0_met := s_p0_seeker_met) (s_p0_taken := s_p0_seeker_taken) (s_p2 := s_W_sets) (s_p3 := s_W_through) (x_1 := s_W_lineCount) (x_4 := x_2) (x_5 := (1 : Int32)) h) gX6_ovoids_X4_seek rfl rfl (by decide +kernel) ⟨Nat.zero_le _, Nat.zero_le _⟩ ⟨rfl, rfl, by decide, by decide⟩ (Nat.le_of_ble_eq_true rfl) rfl rfl (wr := [vO o_p0 3 [.ref (a_p0 0), .ref (a_p0 1), .ref (a_p0 2), .ref (a_p0 3), .ref (a_p0 4), .ref (a_p0 5), .ref (a_p0 6), .ref (a_p0 7), .ref o_S, .int s_p0_sentSize, .int s_p0_latestFinding, .int s_p0_latestTries, .long s_p0_latestAsked], vO o_W 2 [.ref (a_W 0), .ref (a_W 1), .ref (a_W 2), .int s_W_there, .int s_W_kind, .int s_W_tag, .int s_W_size, .int s_W_lineCount], vI T (a_p0 3) 6 s_p0_findingTimes, vR T 2 (a_p0 0) 6 s_p0_worlds]) [5, 6, 7, 8, 2, 3] [0, 1, 4, 9] rfl rfl rfl rfl (by decide) rfl dX6_ovoids_54 (fun u h => ?_)
        obtain ⟨u_54_0, u_54_1, u_54_2, u_54_3, u_54_4, u_54_5, u_54_6, u_54_7, u_54_8⟩ := u
        dsimp only at h
        refine v_ws (ws' := (cl_X6_ovoids T o_p0 a_p0 o_S o_W a_W a_p0_seeker s_p0_sentSize s_p0_latestFinding s_p0_latestTries s_p0_latestAsked s_W_there s_W_kind s_W_tag s_W_size s_W_lineCount s_W_sets s_W_through s_p0_findingTimes u_54_0 u_54_1 u_54_2 u_54_3 u_54_4 u_54_5 u_54_6 u_54_7 u_54_8 s_p0_worlds)) [0, 1, 8, 9, 2, 4, 5, 6, 7, 3] rfl rfl ?_
        refine v_aload_n X 1 dX6_ovoids_57 rfl rfl ?_
        refine v_aload_n X 1 dX6_ovoids_58 rfl rfl ?_
        refine v_get X 0 6 (F := TX6) (N := 13) iX6_ovoids_X6 rfl rfl (by decide) (List.mem_of_getElem? (i := 2) rfl) rfl rfl dX6_ovoids_59 ?_
        refine v_getN X 5 5 (F := TX4) (N := 9) iX6_ovoids_X4 rfl rfl (by decide) (List.mem_of_getElem? (i := 1) rfl) rfl rfl dX6_ovoids_62 ?_
        refine v_put X (ws' := (cl_X6_ovoids T o_p0 a_p0 o_S o_W a_W a_p0_seeker s_p0_sentSize s_p0_latestFinding u_54_2 s_p0_latestAsked s_W_there s_W_kind s_W_tag s_W_size s_W_lineCount s_W_sets s_W_through s_p0_findingTimes u_54_0 u_54_1 u_54_2 u_54_3 u_54_4 u_54_5 u_54_6 u_54_7 u_54_8 s_p0_worlds)) 0 11 (F := TX6) (N := 13) iX6_ovoids_X6 rfl tyX6 tyX6_ok nmX6 rfl (by decide) (List.mem_of_getElem? (i := 3) rfl) rfl rfl rfl rfl rfl (Nat.le_of_ble_eq_true rfl) rfl dX6_ovoids_65 ?_
        refine v_aload_n X 1 dX6_ovoids_68 rfl rfl ?_
        refine v_get X 0 6 (F := TX6) (N := 13) iX6_ovoids_X6 rfl rfl (by decide) (List.mem_of_getElem? (i := 2) rfl) rfl rfl dX6_ovoids_69 ?_
        refine v_getN X 5 6 (F := TX4) (N := 9) iX6_ovoids_X4 rfl rfl (by decide) (List.mem_of_getElem? (i := 2) rfl) rfl rfl dX6_ovoids_72 ?_
        refine v_if_eq X (tgt := 81) dX6_ovoids_75 (by decide) (fun c_75 => ?_) (fun c_75 => ?_)
        · replace h := h.1 c_75
          refine v_aload_n X 1 dX6_ovoids_81 rfl rfl ?_
          refine v_aload_n X 1 dX6_ovoids_82 rfl rfl ?_
          refine v_get X 0 6 (F := TX6) (N := 13) iX6_ovoids_X6 rfl rfl (by decide) (List.mem_of_getElem? (i := 2) rfl) rfl rfl dX6_ovoids_83 ?_
          refine v_getN X 5 7 (F := TX4) (N := 9) iX6_ovoids_X4 rfl rfl (by decide) (List.mem_of_getElem? (i := 3) rfl) rfl rfl dX6_ovoids_86 ?_
          refine v_i2l X dX6_ovoids_89 ?_
          refine v_put X (ws' := (cl_X6_ovoids T o_p0 a_p0 o_S o_W a_W a_p0_seeker s_p0_sentSize s_p0_latestFinding u_54_2 (u_54_4).toInt64 s_W_there s_W_kind s_W_tag s_W_size s_W_lineCount s_W_sets s_W_through s_p0_findingTimes u_54_0 u_54_1 u_54_2 u_54_3 u_54_4 u_54_5 u_54_6 u_54_7 u_54_8 s_p0_worlds)) 0 12 (F := TX6) (N := 13) iX6_ovoids_X6 rfl tyX6 tyX6_ok nmX6 rfl (by decide) (List.mem_of_getElem? (i := 4) rfl) rfl rfl rfl rfl rfl (Nat.le_of_ble_eq_true rfl) rfl dX6_ovoids_90 ?_
          refine v_iconst X dX6_ovoids_93 (v := (1 : Int32)) (by decide) ?_
          exact r _ _ _ (s_p0_latestFinding, u_54_2, (u_54_4).toInt64, s_p0_findingTimes, u_54_0, u_54_1, u_54_2, u_54_3, u_54_4, u_54_5, u_54_6, u_54_7, u_54_8) _ dX6_ovoids_94 h rfl
        · replace h := h.2 c_75
          refine v_bipush X dX6_ovoids_78 (v := (-6 : Int32)) (by decide) ?_
          exact r _ _ _ (s_p0_latestFinding, u_54_2, s_p0_latestAsked, s_p0_findingTimes, u_54_0, u_54_1, u_54_2, u_54_3, u_54_4, u_54_5, u_54_6, u_54_7, u_54_8) _ dX6_ovoids_80 h rfl
      · replace h := h.2 c_27
        refine v_aload_n X 1 dX6_ovoids_30 rfl rfl ?_
        refine v_iconst X dX6_ovoids_31 (v := (1 : Int32)) (by decide) ?_
        refine v_callVi X (As := [.int (1 : Int32)]) (rest := []) 1 0 (c_X6_refused (l := vl E) (D := vD E) (T := T) (o_p0 := o_p0) (a_p0 := a_p0) (o_S := o_S) (s_p0_sentSize := s_p0_sentSize) (s_p0_latestFinding := s_p0_latestFinding) (s_p0_latestTries := s_p0_latestTries) (s_p0_latestAsked := s_p0_latestAsked) (s_p0_findingTimes := s_p0_findingTimes) (x_1 := (1 : Int32)) h) gX6_ovoids_X6_refused rfl rfl (by decide +kernel) ⟨Nat.zero_le _, Nat.zero_le _⟩ ⟨rfl, rfl, by decide, by decide⟩ (Nat.le_of_ble_eq_true rfl) rfl rfl (wr := [vO o_W 2 [.ref (a_W 0), .ref (a_W 1), .ref (a_W 2), .int s_W_there, .int s_W_kind, .int s_W_tag, .int s_W_size, .int s_W_lineCount], vJ T (a_W 0) 45 s_W_sets, vJ T (a_W 1) 45 s_W_through, vO (a_p0 6) 1 [.ref (a_p0_seeker 0), .ref (a_p0_seeker 1), .ref (a_p0_seeker 2), .long s_p0_seeker_allMet, .int s_p0_seeker_depth, .int s_p0_seeker_tryCount, .int s_p0_seeker_isSpent, .int s_p0_seeker_foundCount, .long s_p0_seeker_foundSet], vJ T (a_p0_seeker 2) 46 s_p0_seeker_left, vJ T (a_p0_seeker 0) 46 s_p0_seeker_met, vJ T (a_p0_seeker 1) 46 s_p0_seeker_taken, vR T 2 (a_p0 0) 6 s_p0_worlds]) [0, 4] [1, 2, 3, 5, 6, 7, 8, 9] rfl rfl rfl rfl (by decide) rfl dX6_ovoids_32 (fun r_32 u h => ?_)
        obtain ⟨u_32_0, u_32_1⟩ := u
        dsimp only at h
        refine v_ws (ws' := (cl_X6_ovoids T o_p0 a_p0 o_S o_W a_W a_p0_seeker s_p0_sentSize u_32_0 s_p0_latestTries s_p0_latestAsked s_W_there s_W_kind s_W_tag s_W_size s_W_lineCount s_W_sets s_W_through u_32_1 s_p0_seeker_allMet s_p0_seeker_depth s_p0_seeker_tryCount s_p0_seeker_isSpent s_p0_seeker_foundCount s_p0_seeker_foundSet s_p0_seeker_left s_p0_seeker_met s_p0_seeker_taken s_p0_worlds)) [8, 0, 1, 2, 9, 3, 4, 5, 6, 7] rfl rfl ?_
        exact r _ _ _ (u_32_0, s_p0_latestTries, s_p0_latestAsked, u_32_1, s_p0_seeker_allMet, s_p0_seeker_depth, s_p0_seeker_tryCount, s_p0_seeker_isSpent, s_p0_seeker_foundCount, s_p0_seeker_foundSet, s_p0_seeker_left, s_p0_seeker_met, s_p0_seeker_taken) _ dX6_ovoids_35 h rfl
    · replace h := h.2 c_11
      refine v_lv (lv' := []) [] rfl ?_
      exact k_X6_ovoids_14 X r h
-- X6_tries
abbrev cl_X6_tries (T : Nat → ClassId) (o_p0 : Nat) (a_p0 : Nat → Nat) (o_S : Nat) (s_p0_sentSize : Int32) (s_p0_latestFinding : Int32) (s_p0_latestTries : Int32) (s_p0_latestAsked : Int64) : va_W := [vO o_p0 3 [.ref (a_p0 0), .ref (a_p0 1), .ref (a_p0 2), .ref (a_p0 3), .ref (a_p0 4), .ref (a_p0 5), .ref (a_p0 6), .ref (a_p0 7), .ref o_S, .int s_p0_sentSize, .int s_p0_latestFinding, .int s_p0_latestTries, .long s_p0_latestAsked]]
abbrev r_X6_tries (E : vE) (T : Nat → ClassId) (o_p0 : Nat) (a_p0 : Nat → Nat) (o_S : Nat) (s_p0_sentSize : Int32) (s_p0_latestFinding : Int32) (s_p0_latestTries : Int32) (s_p0_latestAsked : Int64) (Q : Int32 → Prop) : Prop := vRi E cX6_tries (fun v (u : Unit) => Q v) (fun (u : Unit) => (cl_X6_tries T o_p0 a_p0 o_S s_p0_sentSize s_p0_latestFinding s_p0_latestTries s_p0_latestAsked))
def w_X6_tries (s_p0_latestTries : Int32) (Q : Int32 → Prop) : Prop := (Q s_p0_latestTries)
-- X6_tries
theorem iX6_tries_X6 : ∀ w ∈ wsX60, w ∈ wsX6_tries := by decide +kernel
set_option maxHeartbeats 4000000 in
set_option maxRecDepth 100000 in
theorem c_X6_tries {l : Launch} {D : va_G} {T : Nat → ClassId} {o_p0 : Nat} {a_p0 : Nat → Nat} {o_S : Nat} {s_p0_sentSize : Int32} {s_p0_latestFinding : Int32} {s_p0_latestTries : Int32} {s_p0_latestAsked : Int64} {Q : Int32 → Prop} (h : w_X6_tries s_p0_latestTries Q) : vCi l D (vT T) yX6_tries wsX6_tries (vr 0 0) [.ref o_p0] (cl_X6_tries T o_p0 a_p0 o_S s_p0_sentSize s_p0_latestFinding s_p0_latestTries s_p0_latestAsked) (fun v (u : Unit) => Q v) (fun (u : Unit) => (cl_X6_tries T o_p0 a_p0 o_S s_p0_sentSize s_p0_latestFinding s_p0_latestTries s_p0_latestAsked)) := by
  refine vC_i (cc := cX6_tries) (nL := 1) (by decide +kernel) rfl ⟨rfl, rfl⟩ (Nat.le_of_ble_eq_true rfl) rfl ?_
  intro E el eD X r
  unfold w_X6_tries at h
  refine v_aload_n X 0 dX6_tries_0 rfl rfl ?_
  refine v_get X 0 11 (F := TX6) (N := 13) iX6_tries_X6 rfl rfl (by decide) (List.mem_of_getElem? (i := 1) rfl) rfl rfl dX6_tries_1 ?_
  exact r _ _ _ () _ dX6_tries_4 h rfl
-- X6_meets
abbrev cl_X6_meets (T : Nat → ClassId) (o_p0 : Nat) (a_p0 : Nat → Nat) (o_S : Nat) (o_W : Nat) (a_W : Nat → Nat) (s_p0_sentSize : Int32) (s_p0_latestFinding : Int32) (s_p0_latestTries : Int32) (s_p0_latestAsked : Int64) (s_W_there : Int32) (s_W_kind : Int32) (s_W_tag : Int32) (s_W_size : Int32) (s_W_lineCount : Int32) (s_W_sets : Nat → Int64) (s_p0_findingTimes : Nat → Int32) (s_p0_worlds : Nat → Option Nat) : va_W := [vO o_p0 3 [.ref (a_p0 0), .ref (a_p0 1), .ref (a_p0 2), .ref (a_p0 3), .ref (a_p0 4), .ref (a_p0 5), .ref (a_p0 6), .ref (a_p0 7), .ref o_S, .int s_p0_sentSize, .int s_p0_latestFinding, .int s_p0_latestTries, .long s_p0_latestAsked], vO o_W 2 [.ref (a_W 0), .ref (a_W 1), .ref (a_W 2), .int s_W_there, .int s_W_kind, .int s_W_tag, .int s_W_size, .int s_W_lineCount], vJ T (a_W 0) 45 s_W_sets, vI T (a_p0 3) 6 s_p0_findingTimes, vR T 2 (a_p0 0) 6 s_p0_worlds]
abbrev r_X6_meets (E : vE) (T : Nat → ClassId) (o_p0 : Nat) (a_p0 : Nat → Nat) (o_S : Nat) (o_W : Nat) (a_W : Nat → Nat) (s_p0_sentSize : Int32) (s_p0_latestTries : Int32) (s_p0_latestAsked : Int64) (s_W_there : Int32) (s_W_kind : Int32) (s_W_tag : Int32) (s_W_size : Int32) (s_W_lineCount : Int32) (s_W_sets : Nat → Int64) (s_p0_worlds : Nat → Option Nat) (Q : Int32 → (Int32) → (Nat → Int32) → Prop) : Prop := vRi E cX6_meets (fun v (u : (Int32) × (Nat → Int32)) => Q v u.1 u.2) (fun (u : (Int32) × (Nat → Int32)) => (cl_X6_meets T o_p0 a_p0 o_S o_W a_W s_p0_sentSize u.1 s_p0_latestTries s_p0_latestAsked s_W_there s_W_kind s_W_tag s_W_size s_W_lineCount s_W_sets u.2 s_p0_worlds))
def w_X6_meets_76 (t_0 : Int32) (s_p0_latestFinding : Int32) (s_W_there : Int32) (s_W_size : Int32) (s_W_lineCount : Int32) (s_W_sets : Nat → Int64) (s_p0_findingTimes : Nat → Int32) (s_p0_worlds : Nat → Option Nat) (o_W : Nat) (Q : Int32 → (Int32) → (Nat → Int32) → Prop) : Prop := (Q t_0 s_p0_latestFinding s_p0_findingTimes)
def w_X6_meets (x_1 : Int32) (x_2 : Int64) (x_4 : Int32) (s_p0_latestFinding : Int32) (s_W_there : Int32) (s_W_size : Int32) (s_W_lineCount : Int32) (s_W_sets : Nat → Int64) (s_p0_findingTimes : Nat → Int32) (s_p0_worlds : Nat → Option Nat) (o_W : Nat) (Q : Int32 → (Int32) → (Nat → Int32) → Prop) : Prop := (w_X6_isWorldNumber x_1 (fun (r_1 : Int32) => ((¬ r_1 = 0 → (vp_in x_1 6 ∧ s_p0_worlds (x_1).toNatClampNeg = some o_W ∧ ((¬ s_W_there = 0 → (w_X5_hasAll x_2 s_W_size (fun (r_34 : Int32) => ((¬ r_34 = 0 → ((¬ s_W_lineCount = 0 → ((x_4 = 0 → (w_X5_leastOnLine x_2 s_W_lineCount s_W_sets (fun (r_73 : Int32) => (w_X6_meets_76 r_73 s_p0_latestFinding s_W_there s_W_size s_W_lineCount s_W_sets s_p0_findingTimes s_p0_worlds o_W Q)))) ∧ (¬ x_4 = 0 → (w_X5_mostOnLine x_2 s_W_lineCount s_W_sets (fun (r_64 : Int32) => (w_X6_meets_76 r_64 s_p0_latestFinding s_W_there s_W_size s_W_lineCount s_W_sets s_p0_findingTimes s_p0_worlds o_W Q)))))) ∧ (s_W_lineCount = 0 → (w_X6_refused (4 : Int32) s_p0_latestFinding s_p0_findingTimes (fun (r_52 : Int32) (u_52_0 : Int32) (u_52_1 : Nat → Int32) => (Q r_52 u_52_0 u_52_1)))))) ∧ (r_34 = 0 → (Q (-1 : Int32) s_p0_latestFinding s_p0_findingTimes)))))) ∧ (s_W_there = 0 → (w_X6_refused (1 : Int32) s_p0_latestFinding s_p0_findingTimes (fun (r_27 : Int32) (u_27_0 : Int32) (u_27_1 : Nat → Int32) => (Q r_27 u_27_0 u_27_1))))))) ∧ (r_1 = 0 → (Q (-1 : Int32) s_p0_latestFinding s_p0_findingTimes)))))
-- X6_meets
theorem iX6_meets_X5 : ∀ w ∈ wsX50, w ∈ wsX6_meets := by decide +kernel
theorem iX6_meets_X6 : ∀ w ∈ wsX60, w ∈ wsX6_meets := by decide +kernel
set_option maxHeartbeats 4000000 in
set_option maxRecDepth 100000 in
theorem k_X6_meets_76 {E : vE} {T : Nat → ClassId} {o_p0 : Nat} {a_p0 : Nat → Nat} {o_S : Nat} {o_W : Nat} {a_W : Nat → Nat} {s_p0_sentSize : Int32} {s_p0_latestFinding : Int32} {s_p0_latestTries : Int32} {s_p0_latestAsked : Int64} {s_W_there : Int32} {s_W_kind : Int32} {s_W_tag : Int32} {s_W_size : Int32} {s_W_lineCount : Int32} {s_W_sets : Nat → Int64} {s_p0_findingTimes : Nat → Int32} {s_p0_worlds : Nat → Option Nat} {t_0 : Int32} {Q : Int32 → (Int32) → (Nat → Int32) → Prop} (X : vX E cX6_meets 6 RX6 wsX6_meets (vT T) (vr 2 45)) (r : r_X6_meets E T o_p0 a_p0 o_S o_W a_W s_p0_sentSize s_p0_latestTries s_p0_latestAsked s_W_there s_W_kind s_W_tag s_W_size s_W_lineCount s_W_sets s_p0_worlds Q) (h : w_X6_meets_76 t_0 s_p0_latestFinding s_W_there s_W_size s_W_lineCount s_W_sets s_p0_findingTimes s_p0_worlds o_W Q) : V E 0 0 76 [] [.int t_0] (cl_X6_meets T o_p0 a_p0 o_S o_W a_W s_p0_sentSize s_p0_latestFinding s_p0_latestTries s_p0_latestAsked s_W_there s_W_kind s_W_tag s_W_size s_W_lineCount s_W_sets s_p0_findingTimes s_p0_worlds) := by
  unfold w_X6_meets_76 at h
  exact r _ _ _ (s_p0_latestFinding, s_p0_findingTimes) _ dX6_meets_76 h rfl
set_option maxHeartbeats 4000000 in
set_option maxRecDepth 100000 in
theorem c_X6_meets {l : Launch} {D : va_G} {T : Nat → ClassId} {o_p0 : Nat} {a_p0 : Nat → Nat} {o_S : Nat} {o_W : Nat} {a_W : Nat → Nat} {s_p0_sentSize : Int32} {s_p0_latestFinding : Int32} {s_p0_latestTries : Int32} {s_p0_latestAsked : Int64} {s_W_there : Int32} {s_W_kind : Int32} {s_W_tag : Int32} {s_W_size : Int32} {s_W_lineCount : Int32} {s_W_sets : Nat → Int64} {s_p0_findingTimes : Nat → Int32} {s_p0_worlds : Nat → Option Nat} {x_1 : Int32} {x_2 : Int64} {x_4 : Int32} {Q : Int32 → (Int32) → (Nat → Int32) → Prop} (h : w_X6_meets x_1 x_2 x_4 s_p0_latestFinding s_W_there s_W_size s_W_lineCount s_W_sets s_p0_findingTimes s_p0_worlds o_W Q) : vCi l D (vT T) yX6_meets wsX6_meets (vr 2 45) [.ref o_p0, .int x_1, .long x_2, .int x_4] (cl_X6_meets T o_p0 a_p0 o_S o_W a_W s_p0_sentSize s_p0_latestFinding s_p0_latestTries s_p0_latestAsked s_W_there s_W_kind s_W_tag s_W_size s_W_lineCount s_W_sets s_p0_findingTimes s_p0_worlds) (fun v (u : (Int32) × (Nat → Int32)) => Q v u.1 u.2) (fun (u : (Int32) × (Nat → Int32)) => (cl_X6_meets T o_p0 a_p0 o_S o_W a_W s_p0_sentSize u.1 s_p0_latestTries s_p0_latestAsked s_W_there s_W_kind s_W_tag s_W_size s_W_lineCount s_W_sets u.2 s_p0_worlds)) := by
  refine vC_i (cc := cX6_meets) (nL := 6) (by decide +kernel) rfl ⟨rfl, rfl⟩ (Nat.le_of_ble_eq_true rfl) rfl ?_
  intro E el eD X r
  unfold w_X6_meets at h
  refine v_iload_n X 1 dX6_meets_0 rfl rfl ?_
  refine v_callSi0 X (As := [.int x_1]) (rest := []) 1 (c_X6_isWorldNumber (l := vl E) (D := vD E) (T := T) (x_0 := x_1) h) gX6_meets_X6_isWorldNumber rfl rfl (by decide +kernel) ⟨Nat.zero_le _, Nat.zero_le _⟩ ⟨rfl, rfl, by decide, by decide⟩ (Nat.le_of_ble_eq_true rfl) rfl dX6_meets_1 (fun r_1 h => ?_)
  refine v_if_ne X (tgt := 9) dX6_meets_4 (by decide) (fun c_4 => ?_) (fun c_4 => ?_)
  · replace h := h.1 c_4
    refine v_aload_n X 0 dX6_meets_9 rfl rfl ?_
    refine v_get X 0 0 (F := TX6) (N := 13) iX6_meets_X6 rfl rfl (by decide) (List.mem_of_getElem? (i := 1) rfl) rfl rfl dX6_meets_10 ?_
    refine v_iload_n X 1 dX6_meets_13 rfl rfl ?_
    refine v_aald X 4 2 rfl rfl h.1 h.2.1 dX6_meets_14 ?_
    replace h := h.2.2
    refine v_astore X (lv' := [(5, .ref o_W), (0, .ref o_p0), (1, .int x_1), (2, .long x_2), (4, .int x_4)]) dX6_meets_15 (by decide) rfl ?_
    refine v_aload X 0 dX6_meets_17 rfl ?_
    refine v_getN X 1 3 (F := TX5) (N := 8) iX6_meets_X5 rfl rfl (by decide) (List.mem_of_getElem? (i := 23) rfl) rfl rfl dX6_meets_19 ?_
    refine v_if_ne X (tgt := 31) dX6_meets_22 (by decide) (fun c_22 => ?_) (fun c_22 => ?_)
    · replace h := h.1 c_22
      refine v_aload X 0 dX6_meets_31 rfl ?_
      refine v_lload_n X 3 dX6_meets_33 rfl rfl ?_
      refine v_callVi X (As := [.long x_2]) (rest := []) 1 0 (c_X5_hasAll (l := vl E) (D := vD E) (T := T) (o_p0 := o_W) (a_p0 := a_W) (s_p0_there := s_W_there) (s_p0_kind := s_W_kind) (s_p0_tag := s_W_tag) (s_p0_size := s_W_size) (s_p0_lineCount := s_W_lineCount) (x_1 := x_2) h) gX6_meets_X5_hasAll rfl rfl (by decide +kernel) ⟨Nat.zero_le _, Nat.zero_le _⟩ ⟨rfl, rfl, by decide, by decide⟩ (Nat.le_of_ble_eq_true rfl) rfl rfl (wr := [vO o_p0 3 [.ref (a_p0 0), .ref (a_p0 1), .ref (a_p0 2), .ref (a_p0 3), .ref (a_p0 4), .ref (a_p0 5), .ref (a_p0 6), .ref (a_p0 7), .ref o_S, .int s_p0_sentSize, .int s_p0_latestFinding, .int s_p0_latestTries, .long s_p0_latestAsked], vJ T (a_W 0) 45 s_W_sets, vI T (a_p0 3) 6 s_p0_findingTimes, vR T 2 (a_p0 0) 6 s_p0_worlds]) [1] [0, 2, 3, 4] rfl rfl rfl rfl (by decide) rfl dX6_meets_34 (fun r_34 u h => ?_)
      refine v_ws (ws' := (cl_X6_meets T o_p0 a_p0 o_S o_W a_W s_p0_sentSize s_p0_latestFinding s_p0_latestTries s_p0_latestAsked s_W_there s_W_kind s_W_tag s_W_size s_W_lineCount s_W_sets s_p0_findingTimes s_p0_worlds)) [0, 4, 1, 2, 3] rfl rfl ?_
      refine v_if_ne X (tgt := 42) dX6_meets_37 (by decide) (fun c_37 => ?_) (fun c_37 => ?_)
      · replace h := h.1 c_37
        refine v_aload X 0 dX6_meets_42 rfl ?_
        refine v_getN X 1 7 (F := TX5) (N := 8) iX6_meets_X5 rfl rfl (by decide) (List.mem_of_getElem? (i := 33) rfl) rfl rfl dX6_meets_44 ?_
        refine v_if_ne X (tgt := 56) dX6_meets_47 (by decide) (fun c_47 => ?_) (fun c_47 => ?_)
        · replace h := h.1 c_47
          refine v_iload X 4 dX6_meets_56 rfl ?_
          refine v_if_eq X (tgt := 70) dX6_meets_58 (by decide) (fun c_58 => ?_) (fun c_58 => ?_)
          · replace h := h.1 c_58
            refine v_aload X 0 dX6_meets_70 rfl ?_
            refine v_lload_n X 3 dX6_meets_72 rfl rfl ?_
            refine v_callVi X (As := [.long x_2]) (rest := []) 1 0 (c_X5_leastOnLine (l := vl E) (D := vD E) (T := T) (o_p0 := o_W) (a_p0 := a_W) (s_p0_there := s_W_there) (s_p0_kind := s_W_kind) (s_p0_tag := s_W_tag) (s_p0_size := s_W_size) (s_p0_lineCount := s_W_lineCount) (s_p0_sets := s_W_sets) (x_1 := x_2) h) gX6_meets_X5_leastOnLine rfl rfl (by decide +kernel) ⟨Nat.zero_le _, Nat.zero_le _⟩ ⟨rfl, rfl, by decide, by decide⟩ (Nat.le_of_ble_eq_true rfl) rfl rfl (wr := [vO o_p0 3 [.ref (a_p0 0), .ref (a_p0 1), .ref (a_p0 2), .ref (a_p0 3), .ref (a_p0 4), .ref (a_p0 5), .ref (a_p0 6), .ref (a_p0 7), .ref o_S, .int s_p0_sentSize, .int s_p0_latestFinding, .int s_p0_latestTries, .long s_p0_latestAsked], vI T (a_p0 3) 6 s_p0_findingTimes, vR T 2 (a_p0 0) 6 s_p0_worlds]) [1, 2] [0, 3, 4] rfl rfl rfl rfl (by decide) rfl dX6_meets_73 (fun r_73 u h => ?_)
            refine v_ws (ws' := (cl_X6_meets T o_p0 a_p0 o_S o_W a_W s_p0_sentSize s_p0_latestFinding s_p0_latestTries s_p0_latestAsked s_W_there s_W_kind s_W_tag s_W_size s_W_lineCount s_W_sets s_p0_findingTimes s_p0_worlds)) [0, 3, 4, 1, 2] rfl rfl ?_
            refine v_lv (lv' := []) [] rfl ?_
            exact k_X6_meets_76 X r h
          · replace h := h.2 c_58
            refine v_aload X 0 dX6_meets_61 rfl ?_
            refine v_lload_n X 3 dX6_meets_63 rfl rfl ?_
            refine v_callVi X (As := [.long x_2]) (rest := []) 1 0 (c_X5_mostOnLine (l := vl E) (D := vD E) (T := T) (o_p0 := o_W) (a_p0 := a_W) (s_p0_there := s_W_there) (s_p0_kind := s_W_kind) (s_p0_tag := s_W_tag) (s_p0_size := s_W_size) (s_p0_lineCount := s_W_lineCount) (s_p0_sets := s_W_sets) (x_1 := x_2) h) gX6_meets_X5_mostOnLine rfl rfl (by decide +kernel) ⟨Nat.zero_le _, Nat.zero_le _⟩ ⟨rfl, rfl, by decide, by decide⟩ (Nat.le_of_ble_eq_true rfl) rfl rfl (wr := [vO o_p0 3 [.ref (a_p0 0), .ref (a_p0 1), .ref (a_p0 2), .ref (a_p0 3), .ref (a_p0 4), .ref (a_p0 5), .ref (a_p0 6), .ref (a_p0 7), .ref o_S, .int s_p0_sentSize, .int s_p0_latestFinding, .int s_p0_latestTries, .long s_p0_latestAsked], vI T (a_p0 3) 6 s_p0_findingTimes, vR T 2 (a_p0 0) 6 s_p0_worlds]) [1, 2] [0, 3, 4] rfl rfl rfl rfl (by decide) rfl dX6_meets_64 (fun r_64 u h => ?_)
            refine v_ws (ws' := (cl_X6_meets T o_p0 a_p0 o_S o_W a_W s_p0_sentSize s_p0_latestFinding s_p0_latestTries s_p0_latestAsked s_W_there s_W_kind s_W_tag s_W_size s_W_lineCount s_W_sets s_p0_findingTimes s_p0_worlds)) [0, 3, 4, 1, 2] rfl rfl ?_
            refine v_goto X (tgt := 76) dX6_meets_67 (by decide) ?_
            refine v_lv (lv' := []) [] rfl ?_
            exact k_X6_meets_76 X r h
        · replace h := h.2 c_47
          refine v_aload_n X 1 dX6_meets_50 rfl rfl ?_
          refine v_iconst X dX6_meets_51 (v := (4 : Int32)) (by decide) ?_
          refine v_callVi X (As := [.int (4 : Int32)]) (rest := []) 1 0 (c_X6_refused (l := vl E) (D := vD E) (T := T) (o_p0 := o_p0) (a_p0 := a_p0) (o_S := o_S) (s_p0_sentSize := s_p0_sentSize) (s_p0_latestFinding := s_p0_latestFinding) (s_p0_latestTries := s_p0_latestTries) (s_p0_latestAsked := s_p0_latestAsked) (s_p0_findingTimes := s_p0_findingTimes) (x_1 := (4 : Int32)) h) gX6_meets_X6_refused rfl rfl (by decide +kernel) ⟨Nat.zero_le _, Nat.zero_le _⟩ ⟨rfl, rfl, by decide, by decide⟩ (Nat.le_of_ble_eq_true rfl) rfl rfl (wr := [vO o_W 2 [.ref (a_W 0), .ref (a_W 1), .ref (a_W 2), .int s_W_there, .int s_W_kind, .int s_W_tag, .int s_W_size, .int s_W_lineCount], vJ T (a_W 0) 45 s_W_sets, vR T 2 (a_p0 0) 6 s_p0_worlds]) [0, 3] [1, 2, 4] rfl rfl rfl rfl (by decide) rfl dX6_meets_52 (fun r_52 u h => ?_)
          obtain ⟨u_52_0, u_52_1⟩ := u
          dsimp only at h
          refine v_ws (ws' := (cl_X6_meets T o_p0 a_p0 o_S o_W a_W s_p0_sentSize u_52_0 s_p0_latestTries s_p0_latestAsked s_W_there s_W_kind s_W_tag s_W_size s_W_lineCount s_W_sets u_52_1 s_p0_worlds)) [3, 0, 1, 4, 2] rfl rfl ?_
          exact r _ _ _ (u_52_0, u_52_1) _ dX6_meets_55 h rfl
      · replace h := h.2 c_37
        refine v_iconst X dX6_meets_40 (v := (-1 : Int32)) (by decide) ?_
        exact r _ _ _ (s_p0_latestFinding, s_p0_findingTimes) _ dX6_meets_41 h rfl
    · replace h := h.2 c_22
      refine v_aload_n X 1 dX6_meets_25 rfl rfl ?_
      refine v_iconst X dX6_meets_26 (v := (1 : Int32)) (by decide) ?_
      refine v_callVi X (As := [.int (1 : Int32)]) (rest := []) 1 0 (c_X6_refused (l := vl E) (D := vD E) (T := T) (o_p0 := o_p0) (a_p0 := a_p0) (o_S := o_S) (s_p0_sentSize := s_p0_sentSize) (s_p0_latestFinding := s_p0_latestFinding) (s_p0_latestTries := s_p0_latestTries) (s_p0_latestAsked := s_p0_latestAsked) (s_p0_findingTimes := s_p0_findingTimes) (x_1 := (1 : Int32)) h) gX6_meets_X6_refused rfl rfl (by decide +kernel) ⟨Nat.zero_le _, Nat.zero_le _⟩ ⟨rfl, rfl, by decide, by decide⟩ (Nat.le_of_ble_eq_true rfl) rfl rfl (wr := [vO o_W 2 [.ref (a_W 0), .ref (a_W 1), .ref (a_W 2), .int s_W_there, .int s_W_kind, .int s_W_tag, .int s_W_size, .int s_W_lineCount], vJ T (a_W 0) 45 s_W_sets, vR T 2 (a_p0 0) 6 s_p0_worlds]) [0, 3] [1, 2, 4] rfl rfl rfl rfl (by decide) rfl dX6_meets_27 (fun r_27 u h => ?_)
      obtain ⟨u_27_0, u_27_1⟩ := u
      dsimp only at h
      refine v_ws (ws' := (cl_X6_meets T o_p0 a_p0 o_S o_W a_W s_p0_sentSize u_27_0 s_p0_latestTries s_p0_latestAsked s_W_there s_W_kind s_W_tag s_W_size s_W_lineCount s_W_sets u_27_1 s_p0_worlds)) [3, 0, 1, 4, 2] rfl rfl ?_
      exact r _ _ _ (u_27_0, u_27_1) _ dX6_meets_30 h rfl
  · replace h := h.2 c_4
    refine v_iconst X dX6_meets_7 (v := (-1 : Int32)) (by decide) ?_
    exact r _ _ _ (s_p0_latestFinding, s_p0_findingTimes) _ dX6_meets_8 h rfl
-- X6_rank
abbrev cl_X6_rank (T : Nat → ClassId) (o_p0 : Nat) (a_p0 : Nat → Nat) (o_S : Nat) (o_W : Nat) (a_W : Nat → Nat) (s_p0_sentSize : Int32) (s_p0_latestFinding : Int32) (s_p0_latestTries : Int32) (s_p0_latestAsked : Int64) (s_W_there : Int32) (s_W_kind : Int32) (s_W_tag : Int32) (s_W_size : Int32) (s_W_lineCount : Int32) (s_W_sets : Nat → Int64) (s_p0_findingTimes : Nat → Int32) (s_p0_rankCells : Nat → Int32) (s_p0_worlds : Nat → Option Nat) : va_W := [vO o_p0 3 [.ref (a_p0 0), .ref (a_p0 1), .ref (a_p0 2), .ref (a_p0 3), .ref (a_p0 4), .ref (a_p0 5), .ref (a_p0 6), .ref (a_p0 7), .ref o_S, .int s_p0_sentSize, .int s_p0_latestFinding, .int s_p0_latestTries, .long s_p0_latestAsked], vO o_W 2 [.ref (a_W 0), .ref (a_W 1), .ref (a_W 2), .int s_W_there, .int s_W_kind, .int s_W_tag, .int s_W_size, .int s_W_lineCount], vJ T (a_W 0) 45 s_W_sets, vI T (a_p0 3) 6 s_p0_findingTimes, vI T (a_p0 5) 2025 s_p0_rankCells, vR T 2 (a_p0 0) 6 s_p0_worlds]
abbrev r_X6_rank (E : vE) (T : Nat → ClassId) (o_p0 : Nat) (a_p0 : Nat → Nat) (o_S : Nat) (o_W : Nat) (a_W : Nat → Nat) (s_p0_sentSize : Int32) (s_p0_latestTries : Int32) (s_p0_latestAsked : Int64) (s_W_there : Int32) (s_W_kind : Int32) (s_W_tag : Int32) (s_W_size : Int32) (s_W_lineCount : Int32) (s_W_sets : Nat → Int64) (s_p0_worlds : Nat → Option Nat) (Q : Int32 → (Int32) → (Nat → Int32) → (Nat → Int32) → Prop) : Prop := vRi E cX6_rank (fun v (u : (Int32) × (Nat → Int32) × (Nat → Int32)) => Q v u.1 u.2.1 u.2.2) (fun (u : (Int32) × (Nat → Int32) × (Nat → Int32)) => (cl_X6_rank T o_p0 a_p0 o_S o_W a_W s_p0_sentSize u.1 s_p0_latestTries s_p0_latestAsked s_W_there s_W_kind s_W_tag s_W_size s_W_lineCount s_W_sets u.2.1 u.2.2 s_p0_worlds))
def w_X6_rank_24 (x_1 : Int32) (x_2 : Int32) (s_p0_latestFinding : Int32) (s_W_there : Int32) (s_W_size : Int32) (s_W_lineCount : Int32) (s_W_sets : Nat → Int64) (s_p0_findingTimes : Nat → Int32) (s_p0_rankCells : Nat → Int32) (s_p0_worlds : Nat → Option Nat) (o_W : Nat) (Q : Int32 → (Int32) → (Nat → Int32) → (Nat → Int32) → Prop) : Prop := (vp_in x_1 6 ∧ s_p0_worlds (x_1).toNatClampNeg = some o_W ∧ ((¬ s_W_there = 0 → (vp_in x_1 6 ∧ s_p0_worlds (x_1).toNatClampNeg = some o_W ∧ (w_X3_rankOf x_2 s_W_size s_W_lineCount s_W_sets s_p0_rankCells (fun (r_53 : Int32) (u_53_0 : Nat → Int32) => (Q r_53 s_p0_latestFinding s_p0_findingTimes u_53_0))))) ∧ (s_W_there = 0 → (w_X6_refused (1 : Int32) s_p0_latestFinding s_p0_findingTimes (fun (r_38 : Int32) (u_38_0 : Int32) (u_38_1 : Nat → Int32) => (Q r_38 u_38_0 u_38_1 s_p0_rankCells))))))
def w_X6_rank_22 (s_p0_latestFinding : Int32) (s_W_there : Int32) (s_W_size : Int32) (s_W_lineCount : Int32) (s_W_sets : Nat → Int64) (s_p0_findingTimes : Nat → Int32) (s_p0_rankCells : Nat → Int32) (s_p0_worlds : Nat → Option Nat) (o_W : Nat) (Q : Int32 → (Int32) → (Nat → Int32) → (Nat → Int32) → Prop) : Prop := (Q (-1 : Int32) s_p0_latestFinding s_p0_findingTimes s_p0_rankCells)
def w_X6_rank (x_1 : Int32) (x_2 : Int32) (s_p0_latestFinding : Int32) (s_W_there : Int32) (s_W_size : Int32) (s_W_lineCount : Int32) (s_W_sets : Nat → Int64) (s_p0_findingTimes : Nat → Int32) (s_p0_rankCells : Nat → Int32) (s_p0_worlds : Nat → Option Nat) (o_W : Nat) (Q : Int32 → (Int32) → (Nat → Int32) → (Nat → Int32) → Prop) : Prop := (w_X6_isWorldNumber x_1 (fun (r_1 : Int32) => ((r_1 = 0 → (w_X6_rank_22 s_p0_latestFinding s_W_there s_W_size s_W_lineCount s_W_sets s_p0_findingTimes s_p0_rankCells s_p0_worlds o_W Q)) ∧ (¬ r_1 = 0 → ((x_2 = (2 : Int32) → (w_X6_rank_24 x_1 x_2 s_p0_latestFinding s_W_there s_W_size s_W_lineCount s_W_sets s_p0_findingTimes s_p0_rankCells s_p0_worlds o_W Q)) ∧ (¬ x_2 = (2 : Int32) → ((x_2 = (3 : Int32) → (w_X6_rank_24 x_1 x_2 s_p0_latestFinding s_W_there s_W_size s_W_lineCount s_W_sets s_p0_findingTimes s_p0_rankCells s_p0_worlds o_W Q)) ∧ (¬ x_2 = (3 : Int32) → ((x_2 = (5 : Int32) → (w_X6_rank_24 x_1 x_2 s_p0_latestFinding s_W_there s_W_size s_W_lineCount s_W_sets s_p0_findingTimes s_p0_rankCells s_p0_worlds o_W Q)) ∧ (¬ x_2 = (5 : Int32) → (w_X6_rank_22 s_p0_latestFinding s_W_there s_W_size s_W_lineCount s_W_sets s_p0_findingTimes s_p0_rankCells s_p0_worlds o_W Q)))))))))))
-- X6_rank
theorem iX6_rank_X5 : ∀ w ∈ wsX50, w ∈ wsX6_rank := by decide +kernel
theorem iX6_rank_X6 : ∀ w ∈ wsX60, w ∈ wsX6_rank := by decide +kernel
set_option maxHeartbeats 4000000 in
set_option maxRecDepth 100000 in
theorem k_X6_rank_24 {E : vE} {T : Nat → ClassId} {o_p0 : Nat} {a_p0 : Nat → Nat} {o_S : Nat} {o_W : Nat} {a_W : Nat → Nat} {s_p0_sentSize : Int32} {s_p0_latestFinding : Int32} {s_p0_latestTries : Int32} {s_p0_latestAsked : Int64} {s_W_there : Int32} {s_W_kind : Int32} {s_W_tag : Int32} {s_W_size : Int32} {s_W_lineCount : Int32} {s_W_sets : Nat → Int64} {s_p0_findingTimes : Nat → Int32} {s_p0_rankCells : Nat → Int32} {s_p0_worlds : Nat → Option Nat} {x_1 : Int32} {x_2 : Int32} {Q : Int32 → (Int32) → (Nat → Int32) → (Nat → Int32) → Prop} (X : vX E cX6_rank 3 RX6 wsX6_rank (vT T) (vr 3 76)) (r : r_X6_rank E T o_p0 a_p0 o_S o_W a_W s_p0_sentSize s_p0_latestTries s_p0_latestAsked s_W_there s_W_kind s_W_tag s_W_size s_W_lineCount s_W_sets s_p0_worlds Q) (h : w_X6_rank_24 x_1 x_2 s_p0_latestFinding s_W_there s_W_size s_W_lineCount s_W_sets s_p0_findingTimes s_p0_rankCells s_p0_worlds o_W Q) : V E 0 0 24 [(0, .ref o_p0), (1, .int x_1), (2, .int x_2)] [] (cl_X6_rank T o_p0 a_p0 o_S o_W a_W s_p0_sentSize s_p0_latestFinding s_p0_latestTries s_p0_latestAsked s_W_there s_W_kind s_W_tag s_W_size s_W_lineCount s_W_sets s_p0_findingTimes s_p0_rankCells s_p0_worlds) := by
  unfold w_X6_rank_24 at h
  refine v_aload_n X 0 dX6_rank_24 rfl rfl ?_
  refine v_get X 0 0 (F := TX6) (N := 13) iX6_rank_X6 rfl rfl (by decide) (List.mem_of_getElem? (i := 1) rfl) rfl rfl dX6_rank_25 ?_
  refine v_iload_n X 1 dX6_rank_28 rfl rfl ?_
  refine v_aald X 5 2 rfl rfl h.1 h.2.1 dX6_rank_29 ?_
  replace h := h.2.2
  refine v_getN X 1 3 (F := TX5) (N := 8) iX6_rank_X5 rfl rfl (by decide) (List.mem_of_getElem? (i := 23) rfl) rfl rfl dX6_rank_30 ?_
  refine v_if_ne X (tgt := 42) dX6_rank_33 (by decide) (fun c_33 => ?_) (fun c_33 => ?_)
  · replace h := h.1 c_33
    refine v_aload_n X 0 dX6_rank_42 rfl rfl ?_
    refine v_get X 0 0 (F := TX6) (N := 13) iX6_rank_X6 rfl rfl (by decide) (List.mem_of_getElem? (i := 1) rfl) rfl rfl dX6_rank_43 ?_
    refine v_iload_n X 1 dX6_rank_46 rfl rfl ?_
    refine v_aald X 5 2 rfl rfl h.1 h.2.1 dX6_rank_47 ?_
    replace h := h.2.2
    refine v_iload_n X 2 dX6_rank_48 rfl rfl ?_
    refine v_aload_n X 0 dX6_rank_49 rfl rfl ?_
    refine v_get X 0 5 (F := TX6) (N := 13) iX6_rank_X6 rfl rfl (by decide) (List.mem_of_getElem? (i := 2) rfl) rfl rfl dX6_rank_50 ?_
    refine v_callSi X (As := [.ref o_W, .int x_2, .ref (a_p0 5)]) (rest := []) 3 (c_X3_rankOf (l := vl E) (D := vD E) (T := T) (o_p0 := o_W) (a_p0 := a_W) (o_p2 := (a_p0 5)) (s_p0_there := s_W_there) (s_p0_kind := s_W_kind) (s_p0_tag := s_W_tag) (s_p0_size := s_W_size) (s_p0_lineCount := s_W_lineCount) (s_p0_sets := s_W_sets) (s_p2 := s_p0_rankCells) (x_1 := x_2) h) gX6_rank_X3_rankOf rfl rfl (by decide +kernel) ⟨Nat.zero_le _, Nat.zero_le _⟩ ⟨rfl, rfl, by decide, by decide⟩ (Nat.le_of_ble_eq_true rfl) (wr := [vO o_p0 3 [.ref (a_p0 0), .ref (a_p0 1), .ref (a_p0 2), .ref (a_p0 3), .ref (a_p0 4), .ref (a_p0 5), .ref (a_p0 6), .ref (a_p0 7), .ref o_S, .int s_p0_sentSize, .int s_p0_latestFinding, .int s_p0_latestTries, .long s_p0_latestAsked], vI T (a_p0 3) 6 s_p0_findingTimes, vR T 2 (a_p0 0) 6 s_p0_worlds]) [1, 2, 4] [0, 3, 5] rfl rfl rfl rfl (by decide) rfl dX6_rank_53 (fun r_53 u h => ?_)
    obtain ⟨u_53_0, rfl⟩ : ∃ z, z = u := ⟨_, rfl⟩
    refine v_ws (ws' := (cl_X6_rank T o_p0 a_p0 o_S o_W a_W s_p0_sentSize s_p0_latestFinding s_p0_latestTries s_p0_latestAsked s_W_there s_W_kind s_W_tag s_W_size s_W_lineCount s_W_sets s_p0_findingTimes u_53_0 s_p0_worlds)) [0, 3, 4, 1, 5, 2] rfl rfl ?_
    exact r _ _ _ (s_p0_latestFinding, s_p0_findingTimes, u_53_0) _ dX6_rank_56 h rfl
  · replace h := h.2 c_33
    refine v_aload_n X 0 dX6_rank_36 rfl rfl ?_
    refine v_iconst X dX6_rank_37 (v := (1 : Int32)) (by decide) ?_
    refine v_callVi X (As := [.int (1 : Int32)]) (rest := []) 1 0 (c_X6_refused (l := vl E) (D := vD E) (T := T) (o_p0 := o_p0) (a_p0 := a_p0) (o_S := o_S) (s_p0_sentSize := s_p0_sentSize) (s_p0_latestFinding := s_p0_latestFinding) (s_p0_latestTries := s_p0_latestTries) (s_p0_latestAsked := s_p0_latestAsked) (s_p0_findingTimes := s_p0_findingTimes) (x_1 := (1 : Int32)) h) gX6_rank_X6_refused rfl rfl (by decide +kernel) ⟨Nat.zero_le _, Nat.zero_le _⟩ ⟨rfl, rfl, by decide, by decide⟩ (Nat.le_of_ble_eq_true rfl) rfl rfl (wr := [vO o_W 2 [.ref (a_W 0), .ref (a_W 1), .ref (a_W 2), .int s_W_there, .int s_W_kind, .int s_W_tag, .int s_W_size, .int s_W_lineCount], vJ T (a_W 0) 45 s_W_sets, vI T (a_p0 5) 2025 s_p0_rankCells, vR T 2 (a_p0 0) 6 s_p0_worlds]) [0, 3] [1, 2, 4, 5] rfl rfl rfl rfl (by decide) rfl dX6_rank_38 (fun r_38 u h => ?_)
    obtain ⟨u_38_0, u_38_1⟩ := u
    dsimp only at h
    refine v_ws (ws' := (cl_X6_rank T o_p0 a_p0 o_S o_W a_W s_p0_sentSize u_38_0 s_p0_latestTries s_p0_latestAsked s_W_there s_W_kind s_W_tag s_W_size s_W_lineCount s_W_sets u_38_1 s_p0_rankCells s_p0_worlds)) [4, 0, 1, 5, 2, 3] rfl rfl ?_
    exact r _ _ _ (u_38_0, u_38_1, s_p0_rankCells) _ dX6_rank_41 h rfl
set_option maxHeartbeats 4000000 in
set_option maxRecDepth 100000 in
theorem k_X6_rank_22 {E : vE} {T : Nat → ClassId} {o_p0 : Nat} {a_p0 : Nat → Nat} {o_S : Nat} {o_W : Nat} {a_W : Nat → Nat} {s_p0_sentSize : Int32} {s_p0_latestFinding : Int32} {s_p0_latestTries : Int32} {s_p0_latestAsked : Int64} {s_W_there : Int32} {s_W_kind : Int32} {s_W_tag : Int32} {s_W_size : Int32} {s_W_lineCount : Int32} {s_W_sets : Nat → Int64} {s_p0_findingTimes : Nat → Int32} {s_p0_rankCells : Nat → Int32} {s_p0_worlds : Nat → Option Nat} {Q : Int32 → (Int32) → (Nat → Int32) → (Nat → Int32) → Prop} (X : vX E cX6_rank 3 RX6 wsX6_rank (vT T) (vr 3 76)) (r : r_X6_rank E T o_p0 a_p0 o_S o_W a_W s_p0_sentSize s_p0_latestTries s_p0_latestAsked s_W_there s_W_kind s_W_tag s_W_size s_W_lineCount s_W_sets s_p0_worlds Q) (h : w_X6_rank_22 s_p0_latestFinding s_W_there s_W_size s_W_lineCount s_W_sets s_p0_findingTimes s_p0_rankCells s_p0_worlds o_W Q) : V E 0 0 22 [] [] (cl_X6_rank T o_p0 a_p0 o_S o_W a_W s_p0_sentSize s_p0_latestFinding s_p0_latestTries s_p0_latestAsked s_W_there s_W_kind s_W_tag s_W_size s_W_lineCount s_W_sets s_p0_findingTimes s_p0_rankCells s_p0_worlds) := by
  unfold w_X6_rank_22 at h
  refine v_iconst X dX6_rank_22 (v := (-1 : Int32)) (by decide) ?_
  exact r _ _ _ (s_p0_latestFinding, s_p0_findingTimes, s_p0_rankCells) _ dX6_rank_23 h rfl
set_option maxHeartbeats 4000000 in
set_option maxRecDepth 100000 in
theorem c_X6_rank {l : Launch} {D : va_G} {T : Nat → ClassId} {o_p0 : Nat} {a_p0 : Nat → Nat} {o_S : Nat} {o_W : Nat} {a_W : Nat → Nat} {s_p0_sentSize : Int32} {s_p0_latestFinding : Int32} {s_p0_latestTries : Int32} {s_p0_latestAsked : Int64} {s_W_there : Int32} {s_W_kind : Int32} {s_W_tag : Int32} {s_W_size : Int32} {s_W_lineCount : Int32} {s_W_sets : Nat → Int64} {s_p0_findingTimes : Nat → Int32} {s_p0_rankCells : Nat → Int32} {s_p0_worlds : Nat → Option Nat} {x_1 : Int32} {x_2 : Int32} {Q : Int32 → (Int32) → (Nat → Int32) → (Nat → Int32) → Prop} (h : w_X6_rank x_1 x_2 s_p0_latestFinding s_W_there s_W_size s_W_lineCount s_W_sets s_p0_findingTimes s_p0_rankCells s_p0_worlds o_W Q) : vCi l D (vT T) yX6_rank wsX6_rank (vr 3 76) [.ref o_p0, .int x_1, .int x_2] (cl_X6_rank T o_p0 a_p0 o_S o_W a_W s_p0_sentSize s_p0_latestFinding s_p0_latestTries s_p0_latestAsked s_W_there s_W_kind s_W_tag s_W_size s_W_lineCount s_W_sets s_p0_findingTimes s_p0_rankCells s_p0_worlds) (fun v (u : (Int32) × (Nat → Int32) × (Nat → Int32)) => Q v u.1 u.2.1 u.2.2) (fun (u : (Int32) × (Nat → Int32) × (Nat → Int32)) => (cl_X6_rank T o_p0 a_p0 o_S o_W a_W s_p0_sentSize u.1 s_p0_latestTries s_p0_latestAsked s_W_there s_W_kind s_W_tag s_W_size s_W_lineCount s_W_sets u.2.1 u.2.2 s_p0_worlds)) := by
  refine vC_i (cc := cX6_rank) (nL := 3) (by decide +kernel) rfl ⟨rfl, rfl⟩ (Nat.le_of_ble_eq_true rfl) rfl ?_
  intro E el eD X r
  unfold w_X6_rank at h
  refine v_iload_n X 1 dX6_rank_0 rfl rfl ?_
  refine v_callSi0 X (As := [.int x_1]) (rest := []) 1 (c_X6_isWorldNumber (l := vl E) (D := vD E) (T := T) (x_0 := x_1) h) gX6_rank_X6_isWorldNumber rfl rfl (by decide +kernel) ⟨Nat.zero_le _, Nat.zero_le _⟩ ⟨rfl, rfl, by decide, by decide⟩ (Nat.le_of_ble_eq_true rfl) rfl dX6_rank_1 (fun r_1 h => ?_)
  refine v_if_eq X (tgt := 22) dX6_rank_4 (by decide) (fun c_4 => ?_) (fun c_4 => ?_)
  · replace h := h.1 c_4
    refine v_lv (lv' := []) [] rfl ?_
    exact k_X6_rank_22 X r h
  · replace h := h.2 c_4
    refine v_iload_n X 2 dX6_rank_7 rfl rfl ?_
    refine v_iconst X dX6_rank_8 (v := (2 : Int32)) (by decide) ?_
    refine v_icmp_eq X (tgt := 24) dX6_rank_9 (by decide) (fun c_9 => ?_) (fun c_9 => ?_)
    · replace h := h.1 c_9
      exact k_X6_rank_24 X r h
    · replace h := h.2 c_9
      refine v_iload_n X 2 dX6_rank_12 rfl rfl ?_
      refine v_iconst X dX6_rank_13 (v := (3 : Int32)) (by decide) ?_
      refine v_icmp_eq X (tgt := 24) dX6_rank_14 (by decide) (fun c_14 => ?_) (fun c_14 => ?_)
      · replace h := h.1 c_14
        exact k_X6_rank_24 X r h
      · replace h := h.2 c_14
        refine v_iload_n X 2 dX6_rank_17 rfl rfl ?_
        refine v_iconst X dX6_rank_18 (v := (5 : Int32)) (by decide) ?_
        refine v_icmp_eq X (tgt := 24) dX6_rank_19 (by decide) (fun c_19 => ?_) (fun c_19 => ?_)
        · replace h := h.1 c_19
          exact k_X6_rank_24 X r h
        · replace h := h.2 c_19
          refine v_lv (lv' := []) [] rfl ?_
          exact k_X6_rank_22 X r h
-- X6_alike
abbrev cl_X6_alike (T : Nat → ClassId) (o_p0 : Nat) (a_p0 : Nat → Nat) (o_S : Nat) (o_U : Nat) (a_U : Nat → Nat) (o_W : Nat) (a_W : Nat → Nat) (a_p0_matcher : Nat → Nat) (s_p0_sentSize : Int32) (s_p0_latestFinding : Int32) (s_p0_latestTries : Int32) (s_p0_latestAsked : Int64) (s_U_there : Int32) (s_U_kind : Int32) (s_U_tag : Int32) (s_U_size : Int32) (s_U_lineCount : Int32) (s_U_near : Nat → Int64) (s_U_sets : Nat → Int64) (s_U_through : Nat → Int64) (s_W_there : Int32) (s_W_kind : Int32) (s_W_tag : Int32) (s_W_size : Int32) (s_W_lineCount : Int32) (s_W_near : Nat → Int64) (s_W_sets : Nat → Int64) (s_W_through : Nat → Int64) (s_p0_findingTimes : Nat → Int32) (s_p0_matcher_depth : Int32) (s_p0_matcher_tryCount : Int32) (s_p0_matcher_isSpent : Int32) (s_p0_matcher_isFound : Int32) (s_p0_matcher_images : Nat → Int32) (s_p0_matcher_left : Nat → Int64) (s_p0_matcher_used : Nat → Int64) (s_p0_sentTo : Nat → Int32) (s_p0_worlds : Nat → Option Nat) : va_W := [vO o_p0 3 [.ref (a_p0 0), .ref (a_p0 1), .ref (a_p0 2), .ref (a_p0 3), .ref (a_p0 4), .ref (a_p0 5), .ref (a_p0 6), .ref (a_p0 7), .ref o_S, .int s_p0_sentSize, .int s_p0_latestFinding, .int s_p0_latestTries, .long s_p0_latestAsked], vO o_U 2 [.ref (a_U 0), .ref (a_U 1), .ref (a_U 2), .int s_U_there, .int s_U_kind, .int s_U_tag, .int s_U_size, .int s_U_lineCount], vJ T (a_U 2) 45 s_U_near, vJ T (a_U 0) 45 s_U_sets, vJ T (a_U 1) 45 s_U_through, vO o_W 2 [.ref (a_W 0), .ref (a_W 1), .ref (a_W 2), .int s_W_there, .int s_W_kind, .int s_W_tag, .int s_W_size, .int s_W_lineCount], vJ T (a_W 2) 45 s_W_near, vJ T (a_W 0) 45 s_W_sets, vJ T (a_W 1) 45 s_W_through, vI T (a_p0 3) 6 s_p0_findingTimes, vO (a_p0 7) 0 [.ref (a_p0_matcher 0), .ref (a_p0_matcher 1), .ref (a_p0_matcher 2), .int s_p0_matcher_depth, .int s_p0_matcher_tryCount, .int s_p0_matcher_isSpent, .int s_p0_matcher_isFound], vI T (a_p0_matcher 0) 45 s_p0_matcher_images, vJ T (a_p0_matcher 2) 46 s_p0_matcher_left, vJ T (a_p0_matcher 1) 46 s_p0_matcher_used, vI T (a_p0 4) 45 s_p0_sentTo, vR T 2 (a_p0 0) 6 s_p0_worlds]
abbrev r_X6_alike (E : vE) (T : Nat → ClassId) (o_p0 : Nat) (a_p0 : Nat → Nat) (o_S : Nat) (o_U : Nat) (a_U : Nat → Nat) (o_W : Nat) (a_W : Nat → Nat) (a_p0_matcher : Nat → Nat) (s_p0_latestAsked : Int64) (s_U_there : Int32) (s_U_kind : Int32) (s_U_tag : Int32) (s_U_size : Int32) (s_U_lineCount : Int32) (s_U_near : Nat → Int64) (s_U_sets : Nat → Int64) (s_U_through : Nat → Int64) (s_W_there : Int32) (s_W_kind : Int32) (s_W_tag : Int32) (s_W_size : Int32) (s_W_lineCount : Int32) (s_W_near : Nat → Int64) (s_W_sets : Nat → Int64) (s_W_through : Nat → Int64) (s_p0_worlds : Nat → Option Nat) (Q : Int32 → (Int32) → (Int32) → (Int32) → (Nat → Int32) → (Int32) → (Int32) → (Int32) → (Int32) → (Nat → Int32) → (Nat → Int64) → (Nat → Int64) → (Nat → Int32) → Prop) : Prop := vRi E cX6_alike (fun v (u : (Int32) × (Int32) × (Int32) × (Nat → Int32) × (Int32) × (Int32) × (Int32) × (Int32) × (Nat → Int32) × (Nat → Int64) × (Nat → Int64) × (Nat → Int32)) => Q v u.1 u.2.1 u.2.2.1 u.2.2.2.1 u.2.2.2.2.1 u.2.2.2.2.2.1 u.2.2.2.2.2.2.1 u.2.2.2.2.2.2.2.1 u.2.2.2.2.2.2.2.2.1 u.2.2.2.2.2.2.2.2.2.1 u.2.2.2.2.2.2.2.2.2.2.1 u.2.2.2.2.2.2.2.2.2.2.2) (fun (u : (Int32) × (Int32) × (Int32) × (Nat → Int32) × (Int32) × (Int32) × (Int32) × (Int32) × (Nat → Int32) × (Nat → Int64) × (Nat → Int64) × (Nat → Int32)) => (cl_X6_alike T o_p0 a_p0 o_S o_U a_U o_W a_W a_p0_matcher u.1 u.2.1 u.2.2.1 s_p0_latestAsked s_U_there s_U_kind s_U_tag s_U_size s_U_lineCount s_U_near s_U_sets s_U_through s_W_there s_W_kind s_W_tag s_W_size s_W_lineCount s_W_near s_W_sets s_W_through u.2.2.2.1 u.2.2.2.2.1 u.2.2.2.2.2.1 u.2.2.2.2.2.2.1 u.2.2.2.2.2.2.2.1 u.2.2.2.2.2.2.2.2.1 u.2.2.2.2.2.2.2.2.2.1 u.2.2.2.2.2.2.2.2.2.2.1 u.2.2.2.2.2.2.2.2.2.2.2 s_p0_worlds))
def w_X6_alike_47 (s_p0_sentSize : Int32) (s_p0_latestFinding : Int32) (s_p0_latestTries : Int32) (s_U_there : Int32) (s_U_size : Int32) (s_U_lineCount : Int32) (s_U_near : Nat → Int64) (s_U_sets : Nat → Int64) (s_U_through : Nat → Int64) (s_W_there : Int32) (s_W_size : Int32) (s_W_lineCount : Int32) (s_W_near : Nat → Int64) (s_W_sets : Nat → Int64) (s_W_through : Nat → Int64) (s_p0_findingTimes : Nat → Int32) (s_p0_matcher_depth : Int32) (s_p0_matcher_tryCount : Int32) (s_p0_matcher_isSpent : Int32) (s_p0_matcher_isFound : Int32) (s_p0_matcher_images : Nat → Int32) (s_p0_matcher_left : Nat → Int64) (s_p0_matcher_used : Nat → Int64) (s_p0_sentTo : Nat → Int32) (s_p0_worlds : Nat → Option Nat) (o_W : Nat) (o_U : Nat) (Q : Int32 → (Int32) → (Int32) → (Int32) → (Nat → Int32) → (Int32) → (Int32) → (Int32) → (Int32) → (Nat → Int32) → (Nat → Int64) → (Nat → Int64) → (Nat → Int32) → Prop) : Prop := (w_X6_refused (1 : Int32) s_p0_latestFinding s_p0_findingTimes (fun (r_49 : Int32) (u_49_0 : Int32) (u_49_1 : Nat → Int32) => (Q r_49 s_p0_sentSize u_49_0 s_p0_latestTries u_49_1 s_p0_matcher_depth s_p0_matcher_tryCount s_p0_matcher_isSpent s_p0_matcher_isFound s_p0_matcher_images s_p0_matcher_left s_p0_matcher_used s_p0_sentTo)))
def w_X6_alike_21 (s_p0_sentSize : Int32) (s_p0_latestFinding : Int32) (s_p0_latestTries : Int32) (s_U_there : Int32) (s_U_size : Int32) (s_U_lineCount : Int32) (s_U_near : Nat → Int64) (s_U_sets : Nat → Int64) (s_U_through : Nat → Int64) (s_W_there : Int32) (s_W_size : Int32) (s_W_lineCount : Int32) (s_W_near : Nat → Int64) (s_W_sets : Nat → Int64) (s_W_through : Nat → Int64) (s_p0_findingTimes : Nat → Int32) (s_p0_matcher_depth : Int32) (s_p0_matcher_tryCount : Int32) (s_p0_matcher_isSpent : Int32) (s_p0_matcher_isFound : Int32) (s_p0_matcher_images : Nat → Int32) (s_p0_matcher_left : Nat → Int64) (s_p0_matcher_used : Nat → Int64) (s_p0_sentTo : Nat → Int32) (s_p0_worlds : Nat → Option Nat) (o_W : Nat) (o_U : Nat) (Q : Int32 → (Int32) → (Int32) → (Int32) → (Nat → Int32) → (Int32) → (Int32) → (Int32) → (Int32) → (Nat → Int32) → (Nat → Int64) → (Nat → Int64) → (Nat → Int32) → Prop) : Prop := (Q (-1 : Int32) s_p0_sentSize s_p0_latestFinding s_p0_latestTries s_p0_findingTimes s_p0_matcher_depth s_p0_matcher_tryCount s_p0_matcher_isSpent s_p0_matcher_isFound s_p0_matcher_images s_p0_matcher_left s_p0_matcher_used s_p0_sentTo)
def w_X6_alike (x_1 : Int32) (x_2 : Int32) (x_3 : Int32) (s_p0_sentSize : Int32) (s_p0_latestFinding : Int32) (s_p0_latestTries : Int32) (s_U_there : Int32) (s_U_size : Int32) (s_U_lineCount : Int32) (s_U_near : Nat → Int64) (s_U_sets : Nat → Int64) (s_U_through : Nat → Int64) (s_W_there : Int32) (s_W_size : Int32) (s_W_lineCount : Int32) (s_W_near : Nat → Int64) (s_W_sets : Nat → Int64) (s_W_through : Nat → Int64) (s_p0_findingTimes : Nat → Int32) (s_p0_matcher_depth : Int32) (s_p0_matcher_tryCount : Int32) (s_p0_matcher_isSpent : Int32) (s_p0_matcher_isFound : Int32) (s_p0_matcher_images : Nat → Int32) (s_p0_matcher_left : Nat → Int64) (s_p0_matcher_used : Nat → Int64) (s_p0_sentTo : Nat → Int32) (s_p0_worlds : Nat → Option Nat) (o_W : Nat) (o_U : Nat) (Q : Int32 → (Int32) → (Int32) → (Int32) → (Nat → Int32) → (Int32) → (Int32) → (Int32) → (Int32) → (Nat → Int32) → (Nat → Int64) → (Nat → Int64) → (Nat → Int32) → Prop) : Prop := (w_X6_isWorldNumber x_1 (fun (r_1 : Int32) => ((r_1 = 0 → (w_X6_alike_21 s_p0_sentSize s_p0_latestFinding s_p0_latestTries s_U_there s_U_size s_U_lineCount s_U_near s_U_sets s_U_through s_W_there s_W_size s_W_lineCount s_W_near s_W_sets s_W_through s_p0_findingTimes s_p0_matcher_depth s_p0_matcher_tryCount s_p0_matcher_isSpent s_p0_matcher_isFound s_p0_matcher_images s_p0_matcher_left s_p0_matcher_used s_p0_sentTo s_p0_worlds o_W o_U Q)) ∧ (¬ r_1 = 0 → (w_X6_isWorldNumber x_2 (fun (r_8 : Int32) => ((r_8 = 0 → (w_X6_alike_21 s_p0_sentSize s_p0_latestFinding s_p0_latestTries s_U_there s_U_size s_U_lineCount s_U_near s_U_sets s_U_through s_W_there s_W_size s_W_lineCount s_W_near s_W_sets s_W_through s_p0_findingTimes s_p0_matcher_depth s_p0_matcher_tryCount s_p0_matcher_isSpent s_p0_matcher_isFound s_p0_matcher_images s_p0_matcher_left s_p0_matcher_used s_p0_sentTo s_p0_worlds o_W o_U Q)) ∧ (¬ r_8 = 0 → (w_X6_isNumberOfTries x_3 (fun (r_15 : Int32) => ((¬ r_15 = 0 → (vp_in x_1 6 ∧ s_p0_worlds (x_1).toNatClampNeg = some o_W ∧ ((s_W_there = 0 → (w_X6_alike_47 s_p0_sentSize s_p0_latestFinding s_p0_latestTries s_U_there s_U_size s_U_lineCount s_U_near s_U_sets s_U_through s_W_there s_W_size s_W_lineCount s_W_near s_W_sets s_W_through s_p0_findingTimes s_p0_matcher_depth s_p0_matcher_tryCount s_p0_matcher_isSpent s_p0_matcher_isFound s_p0_matcher_images s_p0_matcher_left s_p0_matcher_used s_p0_sentTo s_p0_worlds o_W o_U Q)) ∧ (¬ s_W_there = 0 → (vp_in x_2 6 ∧ s_p0_worlds (x_2).toNatClampNeg = some o_U ∧ ((¬ s_U_there = 0 → (vp_in x_1 6 ∧ s_p0_worlds (x_1).toNatClampNeg = some o_W ∧ (vp_in x_2 6 ∧ s_p0_worlds (x_2).toNatClampNeg = some o_U ∧ (w_X2_match x_3 s_p0_matcher_depth s_p0_matcher_tryCount s_p0_matcher_isSpent s_p0_matcher_isFound s_p0_matcher_images s_p0_matcher_left s_p0_matcher_used s_W_size s_W_lineCount s_W_near s_W_sets s_W_through s_U_size s_U_lineCount s_U_near s_U_sets s_U_through (fun (u_70_0 : Int32) (u_70_1 : Int32) (u_70_2 : Int32) (u_70_3 : Int32) (u_70_4 : Nat → Int32) (u_70_5 : Nat → Int64) (u_70_6 : Nat → Int64) => ((u_70_2 = 0 → ((¬ u_70_3 = 0 → (vp_in x_1 6 ∧ s_p0_worlds (x_1).toNatClampNeg = some o_W ∧ (¬ (0 : Int32) < 0 ∧ ¬ (0 : Int32) < 0 ∧ ¬ s_W_size < 0 ∧ ((0 : Int32)).toNatClampNeg + (s_W_size).toNatClampNeg ≤ 45 ∧ ((0 : Int32)).toNatClampNeg + (s_W_size).toNatClampNeg ≤ 45 ∧ (Q (1 : Int32) s_W_size s_p0_latestFinding u_70_1 s_p0_findingTimes u_70_0 u_70_1 u_70_2 u_70_3 u_70_4 u_70_5 u_70_6 (va_cpy u_70_4 s_p0_sentTo ((0 : Int32)).toNatClampNeg ((0 : Int32)).toNatClampNeg (s_W_size).toNatClampNeg))))) ∧ (u_70_3 = 0 → (Q (0 : Int32) s_p0_sentSize s_p0_latestFinding u_70_1 s_p0_findingTimes u_70_0 u_70_1 u_70_2 u_70_3 u_70_4 u_70_5 u_70_6 s_p0_sentTo)))) ∧ (¬ u_70_2 = 0 → (Q (-6 : Int32) s_p0_sentSize s_p0_latestFinding u_70_1 s_p0_findingTimes u_70_0 u_70_1 u_70_2 u_70_3 u_70_4 u_70_5 u_70_6 s_p0_sentTo)))))))) ∧ (s_U_there = 0 → (w_X6_alike_47 s_p0_sentSize s_p0_latestFinding s_p0_latestTries s_U_there s_U_size s_U_lineCount s_U_near s_U_sets s_U_through s_W_there s_W_size s_W_lineCount s_W_near s_W_sets s_W_through s_p0_findingTimes s_p0_matcher_depth s_p0_matcher_tryCount s_p0_matcher_isSpent s_p0_matcher_isFound s_p0_matcher_images s_p0_matcher_left s_p0_matcher_used s_p0_sentTo s_p0_worlds o_W o_U Q)))))))) ∧ (r_15 = 0 → (w_X6_alike_21 s_p0_sentSize s_p0_latestFinding s_p0_latestTries s_U_there s_U_size s_U_lineCount s_U_near s_U_sets s_U_through s_W_there s_W_size s_W_lineCount s_W_near s_W_sets s_W_through s_p0_findingTimes s_p0_matcher_depth s_p0_matcher_tryCount s_p0_matcher_isSpent s_p0_matcher_isFound s_p0_matcher_images s_p0_matcher_left s_p0_matcher_used s_p0_sentTo s_p0_worlds o_W o_U Q)))))))))))))
-- X6_alike
theorem iX6_alike_X2 : ∀ w ∈ wsX20, w ∈ wsX6_alike := by decide +kernel
theorem iX6_alike_X5 : ∀ w ∈ wsX50, w ∈ wsX6_alike := by decide +kernel
theorem iX6_alike_X6 : ∀ w ∈ wsX60, w ∈ wsX6_alike := by decide +kernel
set_option maxHeartbeats 4000000 in
set_option maxRecDepth 100000 in
theorem k_X6_alike_47 {E : vE} {T : Nat → ClassId} {o_p0 : Nat} {a_p0 : Nat → Nat} {o_S : Nat} {o_U : Nat} {a_U : Nat → Nat} {o_W : Nat} {a_W : Nat → Nat} {a_p0_matcher : Nat → Nat} {s_p0_sentSize : Int32} {s_p0_latestFinding : Int32} {s_p0_latestTries : Int32} {s_p0_latestAsked : Int64} {s_U_there : Int32} {s_U_kind : Int32} {s_U_tag : Int32} {s_U_size : Int32} {s_U_lineCount : Int32} {s_U_near : Nat → Int64} {s_U_sets : Nat → Int64} {s_U_through : Nat → Int64} {s_W_there : Int32} {s_W_kind : Int32} {s_W_tag : Int32} {s_W_size : Int32} {s_W_lineCount : Int32} {s_W_near : Nat → Int64} {s_W_sets : Nat → Int64} {s_W_through : Nat → Int64} {s_p0_findingTimes : Nat → Int32} {s_p0_matcher_depth : Int32} {s_p0_matcher_tryCount : Int32} {s_p0_matcher_isSpent : Int32} {s_p0_matcher_isFound : Int32} {s_p0_matcher_images : Nat → Int32} {s_p0_matcher_left : Nat → Int64} {s_p0_matcher_used : Nat → Int64} {s_p0_sentTo : Nat → Int32} {s_p0_worlds : Nat → Option Nat} {Q : Int32 → (Int32) → (Int32) → (Int32) → (Nat → Int32) → (Int32) → (Int32) → (Int32) → (Int32) → (Nat → Int32) → (Nat → Int64) → (Nat → Int64) → (Nat → Int32) → Prop} (X : vX E cX6_alike 4 RX6 wsX6_alike (vT T) (vr 6 147)) (r : r_X6_alike E T o_p0 a_p0 o_S o_U a_U o_W a_W a_p0_matcher s_p0_latestAsked s_U_there s_U_kind s_U_tag s_U_size s_U_lineCount s_U_near s_U_sets s_U_through s_W_there s_W_kind s_W_tag s_W_size s_W_lineCount s_W_near s_W_sets s_W_through s_p0_worlds Q) (h : w_X6_alike_47 s_p0_sentSize s_p0_latestFinding s_p0_latestTries s_U_there s_U_size s_U_lineCount s_U_near s_U_sets s_U_through s_W_there s_W_size s_W_lineCount s_W_near s_W_sets s_W_through s_p0_findingTimes s_p0_matcher_depth s_p0_matcher_tryCount s_p0_matcher_isSpent s_p0_matcher_isFound s_p0_matcher_images s_p0_matcher_left s_p0_matcher_used s_p0_sentTo s_p0_worlds o_W o_U Q) : V E 0 0 47 [(0, .ref o_p0)] [] (cl_X6_alike T o_p0 a_p0 o_S o_U a_U o_W a_W a_p0_matcher s_p0_sentSize s_p0_latestFinding s_p0_latestTries s_p0_latestAsked s_U_there s_U_kind s_U_tag s_U_size s_U_lineCount s_U_near s_U_sets s_U_through s_W_there s_W_kind s_W_tag s_W_size s_W_lineCount s_W_near s_W_sets s_W_through s_p0_findingTimes s_p0_matcher_depth s_p0_matcher_tryCount s_p0_matcher_isSpent s_p0_matcher_isFound s_p0_matcher_images s_p0_matcher_left s_p0_matcher_used s_p0_sentTo s_p0_worlds) := by
  unfold w_X6_alike_47 at h
  refine v_aload_n X 0 dX6_alike_47 rfl rfl ?_
  refine v_iconst X dX6_alike_48 (v := (1 : Int32)) (by decide) ?_
  refine v_callVi X (As := [.int (1 : Int32)]) (rest := []) 1 0 (c_X6_refused (l := vl E) (D := vD E) (T := T) (o_p0 := o_p0) (a_p0 := a_p0) (o_S := o_S) (s_p0_sentSize := s_p0_sentSize) (s_p0_latestFinding := s_p0_latestFinding) (s_p0_latestTries := s_p0_latestTries) (s_p0_latestAsked := s_p0_latestAsked) (s_p0_findingTimes := s_p0_findingTimes) (x_1 := (1 : Int32)) h) gX6_alike_X6_refused rfl rfl (by decide +kernel) ⟨Nat.zero_le _, Nat.zero_le _⟩ ⟨rfl, rfl, by decide, by decide⟩ (Nat.le_of_ble_eq_true rfl) rfl rfl (wr := [vO o_U 2 [.ref (a_U 0), .ref (a_U 1), .ref (a_U 2), .int s_U_there, .int s_U_kind, .int s_U_tag, .int s_U_size, .int s_U_lineCount], vJ T (a_U 2) 45 s_U_near, vJ T (a_U 0) 45 s_U_sets, vJ T (a_U 1) 45 s_U_through, vO o_W 2 [.ref (a_W 0), .ref (a_W 1), .ref (a_W 2), .int s_W_there, .int s_W_kind, .int s_W_tag, .int s_W_size, .int s_W_lineCount], vJ T (a_W 2) 45 s_W_near, vJ T (a_W 0) 45 s_W_sets, vJ T (a_W 1) 45 s_W_through, vO (a_p0 7) 0 [.ref (a_p0_matcher 0), .ref (a_p0_matcher 1), .ref (a_p0_matcher 2), .int s_p0_matcher_depth, .int s_p0_matcher_tryCount, .int s_p0_matcher_isSpent, .int s_p0_matcher_isFound], vI T (a_p0_matcher 0) 45 s_p0_matcher_images, vJ T (a_p0_matcher 2) 46 s_p0_matcher_left, vJ T (a_p0_matcher 1) 46 s_p0_matcher_used, vI T (a_p0 4) 45 s_p0_sentTo, vR T 2 (a_p0 0) 6 s_p0_worlds]) [0, 9] [1, 2, 3, 4, 5, 6, 7, 8, 10, 11, 12, 13, 14, 15] rfl rfl rfl rfl (by decide) rfl dX6_alike_49 (fun r_49 u h => ?_)
  obtain ⟨u_49_0, u_49_1⟩ := u
  dsimp only at h
  refine v_ws (ws' := (cl_X6_alike T o_p0 a_p0 o_S o_U a_U o_W a_W a_p0_matcher s_p0_sentSize u_49_0 s_p0_latestTries s_p0_latestAsked s_U_there s_U_kind s_U_tag s_U_size s_U_lineCount s_U_near s_U_sets s_U_through s_W_there s_W_kind s_W_tag s_W_size s_W_lineCount s_W_near s_W_sets s_W_through u_49_1 s_p0_matcher_depth s_p0_matcher_tryCount s_p0_matcher_isSpent s_p0_matcher_isFound s_p0_matcher_images s_p0_matcher_left s_p0_matcher_used s_p0_sentTo s_p0_worlds)) [14, 0, 1, 2, 3, 4, 5, 6, 7, 15, 8, 9, 10, 11, 12, 13] rfl rfl ?_
  exact r _ _ _ (s_p0_sentSize, u_49_0, s_p0_latestTries, u_49_1, s_p0_matcher_depth, s_p0_matcher_tryCount, s_p0_matcher_isSpent, s_p0_matcher_isFound, s_p0_matcher_images, s_p0_matcher_left, s_p0_matcher_used, s_p0_sentTo) _ dX6_alike_52 h rfl
set_option maxHeartbeats 4000000 in
set_option maxRecDepth 100000 in
theorem k_X6_alike_21 {E : vE} {T : Nat → ClassId} {o_p0 : Nat} {a_p0 : Nat → Nat} {o_S : Nat} {o_U : Nat} {a_U : Nat → Nat} {o_W : Nat} {a_W : Nat → Nat} {a_p0_matcher : Nat → Nat} {s_p0_sentSize : Int32} {s_p0_latestFinding : Int32} {s_p0_latestTries : Int32} {s_p0_latestAsked : Int64} {s_U_there : Int32} {s_U_kind : Int32} {s_U_tag : Int32} {s_U_size : Int32} {s_U_lineCount : Int32} {s_U_near : Nat → Int64} {s_U_sets : Nat → Int64} {s_U_through : Nat → Int64} {s_W_there : Int32} {s_W_kind : Int32} {s_W_tag : Int32} {s_W_size : Int32} {s_W_lineCount : Int32} {s_W_near : Nat → Int64} {s_W_sets : Nat → Int64} {s_W_through : Nat → Int64} {s_p0_findingTimes : Nat → Int32} {s_p0_matcher_depth : Int32} {s_p0_matcher_tryCount : Int32} {s_p0_matcher_isSpent : Int32} {s_p0_matcher_isFound : Int32} {s_p0_matcher_images : Nat → Int32} {s_p0_matcher_left : Nat → Int64} {s_p0_matcher_used : Nat → Int64} {s_p0_sentTo : Nat → Int32} {s_p0_worlds : Nat → Option Nat} {Q : Int32 → (Int32) → (Int32) → (Int32) → (Nat → Int32) → (Int32) → (Int32) → (Int32) → (Int32) → (Nat → Int32) → (Nat → Int64) → (Nat → Int64) → (Nat → Int32) → Prop} (X : vX E cX6_alike 4 RX6 wsX6_alike (vT T) (vr 6 147)) (r : r_X6_alike E T o_p0 a_p0 o_S o_U a_U o_W a_W a_p0_matcher s_p0_latestAsked s_U_there s_U_kind s_U_tag s_U_size s_U_lineCount s_U_near s_U_sets s_U_through s_W_there s_W_kind s_W_tag s_W_size s_W_lineCount s_W_near s_W_sets s_W_through s_p0_worlds Q) (h : w_X6_alike_21 s_p0_sentSize s_p0_latestFinding s_p0_latestTries s_U_there s_U_size s_U_lineCount s_U_near s_U_sets s_U_through s_W_there s_W_size s_W_lineCount s_W_near s_W_sets s_W_through s_p0_findingTimes s_p0_matcher_depth s_p0_matcher_tryCount s_p0_matcher_isSpent s_p0_matcher_isFound s_p0_matcher_images s_p0_matcher_left s_p0_matcher_used s_p0_sentTo s_p0_worlds o_W o_U Q) : V E 0 0 21 [] [] (cl_X6_alike T o_p0 a_p0 o_S o_U a_U o_W a_W a_p0_matcher s_p0_sentSize s_p0_latestFinding s_p0_latestTries s_p0_latestAsked s_U_there s_U_kind s_U_tag s_U_size s_U_lineCount s_U_near s_U_sets s_U_through s_W_there s_W_kind s_W_tag s_W_size s_W_lineCount s_W_near s_W_sets s_W_through s_p0_findingTimes s_p0_matcher_depth s_p0_matcher_tryCount s_p0_matcher_isSpent s_p0_matcher_isFound s_p0_matcher_images s_p0_matcher_left s_p0_matcher_used s_p0_sentTo s_p0_worlds) := by
  unfold w_X6_alike_21 at h
  refine v_iconst X dX6_alike_21 (v := (-1 : Int32)) (by decide) ?_
  exact r _ _ _ (s_p0_sentSize, s_p0_latestFinding, s_p0_latestTries, s_p0_findingTimes, s_p0_matcher_depth, s_p0_matcher_tryCount, s_p0_matcher_isSpent, s_p0_matcher_isFound, s_p0_matcher_images, s_p0_matcher_left, s_p0_matcher_used, s_p0_sentTo) _ dX6_alike_22 h rfl
set_option maxHeartbeats 4000000 in
set_option maxRecDepth 100000 in
theorem c_X6_alike {l : Launch} {D : va_G} {T : Nat → ClassId} {o_p0 : Nat} {a_p0 : Nat → Nat} {o_S : Nat} {o_U : Nat} {a_U : Nat → Nat} {o_W : Nat} {a_W : Nat → Nat} {a_p0_matcher : Nat → Nat} {s_p0_sentSize : Int32} {s_p0_latestFinding : Int32} {s_p0_latestTries : Int32} {s_p0_latestAsked : Int64} {s_U_there : Int32} {s_U_kind : Int32} {s_U_tag : Int32} {s_U_size : Int32} {s_U_lineCount : Int32} {s_U_near : Nat → Int64} {s_U_sets : Nat → Int64} {s_U_through : Nat → Int64} {s_W_there : Int32} {s_W_kind : Int32} {s_W_tag : Int32} {s_W_size : Int32} {s_W_lineCount : Int32} {s_W_near : Nat → Int64} {s_W_sets : Nat → Int64} {s_W_through : Nat → Int64} {s_p0_findingTimes : Nat → Int32} {s_p0_matcher_depth : Int32} {s_p0_matcher_tryCount : Int32} {s_p0_matcher_isSpent : Int32} {s_p0_matcher_isFound : Int32} {s_p0_matcher_images : Nat → Int32} {s_p0_matcher_left : Nat → Int64} {s_p0_matcher_used : Nat → Int64} {s_p0_sentTo : Nat → Int32} {s_p0_worlds : Nat → Option Nat} {x_1 : Int32} {x_2 : Int32} {x_3 : Int32} {Q : Int32 → (Int32) → (Int32) → (Int32) → (Nat → Int32) → (Int32) → (Int32) → (Int32) → (Int32) → (Nat → Int32) → (Nat → Int64) → (Nat → Int64) → (Nat → Int32) → Prop} (h : w_X6_alike x_1 x_2 x_3 s_p0_sentSize s_p0_latestFinding s_p0_latestTries s_U_there s_U_size s_U_lineCount s_U_near s_U_sets s_U_through s_W_there s_W_size s_W_lineCount s_W_near s_W_sets s_W_through s_p0_findingTimes s_p0_matcher_depth s_p0_matcher_tryCount s_p0_matcher_isSpent s_p0_matcher_isFound s_p0_matcher_images s_p0_matcher_left s_p0_matcher_used s_p0_sentTo s_p0_worlds o_W o_U Q) : vCi l D (vT T) yX6_alike wsX6_alike (vr 6 147) [.ref o_p0, .int x_1, .int x_2, .int x_3] (cl_X6_alike T o_p0 a_p0 o_S o_U a_U o_W a_W a_p0_matcher s_p0_sentSize s_p0_latestFinding s_p0_latestTries s_p0_latestAsked s_U_there s_U_kind s_U_tag s_U_size s_U_lineCount s_U_near s_U_sets s_U_through s_W_there s_W_kind s_W_tag s_W_size s_W_lineCount s_W_near s_W_sets s_W_through s_p0_findingTimes s_p0_matcher_depth s_p0_matcher_tryCount s_p0_matcher_isSpent s_p0_matcher_isFound s_p0_matcher_images s_p0_matcher_left s_p0_matcher_used s_p0_sentTo s_p0_worlds) (fun v (u : (Int32) × (Int32) × (Int32) × (Nat → Int32) × (Int32) × (Int32) × (Int32) × (Int32) × (Nat → Int32) × (Nat → Int64) × (Nat → Int64) × (Nat → Int32)) => Q v u.1 u.2.1 u.2.2.1 u.2.2.2.1 u.2.2.2.2.1 u.2.2.2.2.2.1 u.2.2.2.2.2.2.1 u.2.2.2.2.2.2.2.1 u.2.2.2.2.2.2.2.2.1 u.2.2.2.2.2.2.2.2.2.1 u.2.2.2.2.2.2.2.2.2.2.1 u.2.2.2.2.2.2.2.2.2.2.2) (fun (u : (Int32) × (Int32) × (Int32) × (Nat → Int32) × (Int32) × (Int32) × (Int32) × (Int32) × (Nat → Int32) × (Nat → Int64) × (Nat → Int64) × (Nat → Int32)) => (cl_X6_alike T o_p0 a_p0 o_S o_U a_U o_W a_W a_p0_matcher u.1 u.2.1 u.2.2.1 s_p0_latestAsked s_U_there s_U_kind s_U_tag s_U_size s_U_lineCount s_U_near s_U_sets s_U_through s_W_there s_W_kind s_W_tag s_W_size s_W_lineCount s_W_near s_W_sets s_W_through u.2.2.2.1 u.2.2.2.2.1 u.2.2.2.2.2.1 u.2.2.2.2.2.2.1 u.2.2.2.2.2.2.2.1 u.2.2.2.2.2.2.2.2.1 u.2.2.2.2.2.2.2.2.2.1 u.2.2.2.2.2.2.2.2.2.2.1 u.2.2.2.2.2.2.2.2.2.2.2 s_p0_worlds)) := by
  refine vC_i (cc := cX6_alike) (nL := 4) (by decide +kernel) rfl ⟨rfl, rfl⟩ (Nat.le_of_ble_eq_true rfl) rfl ?_
  intro E el eD X r
  unfold w_X6_alike at h
  refine v_iload_n X 1 dX6_alike_0 rfl rfl ?_
  refine v_callSi0 X (As := [.int x_1]) (rest := []) 1 (c_X6_isWorldNumber (l := vl E) (D := vD E) (T := T) (x_0 := x_1) h) gX6_alike_X6_isWorldNumber rfl rfl (by decide +kernel) ⟨Nat.zero_le _, Nat.zero_le _⟩ ⟨rfl, rfl, by decide, by decide⟩ (Nat.le_of_ble_eq_true rfl) rfl dX6_alike_1 (fun r_1 h => ?_)
  refine v_if_eq X (tgt := 21) dX6_alike_4 (by decide) (fun c_4 => ?_) (fun c_4 => ?_)
  · replace h := h.1 c_4
    refine v_lv (lv' := []) [] rfl ?_
    exact k_X6_alike_21 X r h
  · replace h := h.2 c_4
    refine v_iload_n X 2 dX6_alike_7 rfl rfl ?_
    refine v_callSi0 X (As := [.int x_2]) (rest := []) 1 (c_X6_isWorldNumber (l := vl E) (D := vD E) (T := T) (x_0 := x_2) h) gX6_alike_X6_isWorldNumber rfl rfl (by decide +kernel) ⟨Nat.zero_le _, Nat.zero_le _⟩ ⟨rfl, rfl, by decide, by decide⟩ (Nat.le_of_ble_eq_true rfl) rfl dX6_alike_8 (fun r_8 h => ?_)
    refine v_if_eq X (tgt := 21) dX6_alike_11 (by decide) (fun c_11 => ?_) (fun c_11 => ?_)
    · replace h := h.1 c_11
      refine v_lv (lv' := []) [] rfl ?_
      exact k_X6_alike_21 X r h
    · replace h := h.2 c_11
      refine v_iload_n X 3 dX6_alike_14 rfl rfl ?_
      refine v_callSi0 X (As := [.int x_3]) (rest := []) 1 (c_X6_isNumberOfTries (l := vl E) (D := vD E) (T := T) (x_0 := x_3) h) gX6_alike_X6_isNumberOfTries rfl rfl (by decide +kernel) ⟨Nat.zero_le _, Nat.zero_le _⟩ ⟨rfl, rfl, by decide, by decide⟩ (Nat.le_of_ble_eq_true rfl) rfl dX6_alike_15 (fun r_15 h => ?_)
      refine v_if_ne X (tgt := 23) dX6_alike_18 (by decide) (fun c_18 => ?_) (fun c_18 => ?_)
      · replace h := h.1 c_18
        refine v_aload_n X 0 dX6_alike_23 rfl rfl ?_
        refine v_get X 0 0 (F := TX6) (N := 13) iX6_alike_X6 rfl rfl (by decide) (List.mem_of_getElem? (i := 1) rfl) rfl rfl dX6_alike_24 ?_
        refine v_iload_n X 1 dX6_alike_27 rfl rfl ?_
        refine v_aald X 15 2 rfl rfl h.1 h.2.1 dX6_alike_28 ?_
        replace h := h.2.2
        refine v_getN X 5 3 (F := TX5) (N := 8) iX6_alike_X5 rfl rfl (by decide) (List.mem_of_getElem? (i := 23) rfl) rfl rfl dX6_alike_29 ?_
        refine v_if_eq X (tgt := 47) dX6_alike_32 (by decide) (fun c_32 => ?_) (fun c_32 => ?_)
        · replace h := h.1 c_32
          refine v_lv (lv' := [(0, .ref o_p0)]) [0] rfl ?_
          exact k_X6_alike_47 X r h
        · replace h := h.2 c_32
          refine v_aload_n X 0 dX6_alike_35 rfl rfl ?_
          refine v_get X 0 0 (F := TX6) (N := 13) iX6_alike_X6 rfl rfl (by decide) (List.mem_of_getElem? (i := 1) rfl) rfl rfl dX6_alike_36 ?_
          refine v_iload_n X 2 dX6_alike_39 rfl rfl ?_
          refine v_aald X 15 2 rfl rfl h.1 h.2.1 dX6_alike_40 ?_
          replace h := h.2.2
          refine v_getN X 1 3 (F := TX5) (N := 8) iX6_alike_X5 rfl rfl (by decide) (List.mem_of_getElem? (i := 23) rfl) rfl rfl dX6_alike_41 ?_
          refine v_if_ne X (tgt := 53) dX6_alike_44 (by decide) (fun c_44 => ?_) (fun c_44 => ?_)
          · replace h := h.1 c_44
            refine v_aload_n X 0 dX6_alike_53 rfl rfl ?_
            refine v_get X 0 7 (F := TX6) (N := 13) iX6_alike_X6 rfl rfl (by decide) (List.mem_of_getElem? (i := 2) rfl) rfl rfl dX6_alike_54 ?_
            refine v_aload_n X 0 dX6_alike_57 rfl rfl ?_
            refine v_get X 0 0 (F := TX6) (N := 13) iX6_alike_X6 rfl rfl (by decide) (List.mem_of_getElem? (i := 1) rfl) rfl rfl dX6_alike_58 ?_
            refine v_iload_n X 1 dX6_alike_61 rfl rfl ?_
            refine v_aald X 15 2 rfl rfl h.1 h.2.1 dX6_alike_62 ?_
            replace h := h.2.2
            refine v_aload_n X 0 dX6_alike_63 rfl rfl ?_
            refine v_get X 0 0 (F := TX6) (N := 13) iX6_alike_X6 rfl rfl (by decide) (List.mem_of_getElem? (i := 1) rfl) rfl rfl dX6_alike_64 ?_
            refine v_iload_n X 2 dX6_alike_67 rfl rfl ?_
            refine v_aald X 15 2 rfl rfl h.1 h.2.1 dX6_alike_68 ?_
            replace h := h.2.2
            refine v_iload_n X 3 dX6_alike_69 rfl rfl ?_
            refine v_callVv X (As := [.ref o_W, .ref o_U, .int x_3]) (rest := []) 3 0 (c_X2_match (l := vl E) (D := vD E) (T := T) (o_p0 := (a_p0 7)) (a_p0 := a_p0_matcher) (o_p1 := o_W) (a_p1 := a_W) (o_p2 := o_U) (a_p2 := a_U) (s_p0_depth := s_p0_matcher_depth) (s_p0_tryCount := s_p0_matcher_tryCount) (s_p0_isSpent := s_p0_matcher_isSpent) (s_p0_isFound := s_p0_matcher_isFound) (s_p0_images := s_p0_matcher_images) (s_p0_left := s_p0_matcher_left) (s_p0_used := s_p0_matcher_used) (s_p1_there := s_W_there) (s_p1_kind := s_W_kind) (s_p1_tag := s_W_tag) (s_p1_size := s_W_size) (s_p1_lineCount := s_W_lineCount) (s_p1_near := s_W_near) (s_p1_sets := s_W_sets) (s_p1_through := s_W_through) (s_p2_there := s_U_there) (s_p2_kind := s_U_kind) (s_p2_tag := s_U_tag) (s_p2_size := s_U_size) (s_p2_lineCount := s_U_lineCount) (s_p2_near := s_U_near) (s_p2_sets := s_U_sets) (s_p2_through := s_U_through) (x_3 := x_3) h) gX6_alike_X2_match rfl rfl (by decide +kernel) ⟨Nat.zero_le _, Nat.zero_le _⟩ ⟨rfl, rfl, by decide, by decide⟩ (Nat.le_of_ble_eq_true rfl) rfl rfl (wr := [vO o_p0 3 [.ref (a_p0 0), .ref (a_p0 1), .ref (a_p0 2), .ref (a_p0 3), .ref (a_p0 4), .ref (a_p0 5), .ref (a_p0 6), .ref (a_p0 7), .ref o_S, .int s_p0_sentSize, .int s_p0_latestFinding, .int s_p0_latestTries, .long s_p0_latestAsked], vI T (a_p0 3) 6 s_p0_findingTimes, vI T (a_p0 4) 45 s_p0_sentTo, vR T 2 (a_p0 0) 6 s_p0_worlds]) [10, 11, 12, 13, 5, 6, 7, 8, 1, 2, 3, 4] [0, 9, 14, 15] rfl rfl rfl rfl (by decide) rfl dX6_alike_70 (fun u h => ?_)
            obtain ⟨u_70_0, u_70_1, u_70_2, u_70_3, u_70_4, u_70_5, u_70_6⟩ := u
            dsimp only at h
            refine v_ws (ws' := (cl_X6_alike T o_p0 a_p0 o_S o_U a_U o_W a_W a_p0_matcher s_p0_sentSize s_p0_latestFinding s_p0_latestTries s_p0_latestAsked s_U_there s_U_kind s_U_tag s_U_size s_U_lineCount s_U_near s_U_sets s_U_through s_W_there s_W_kind s_W_tag s_W_size s_W_lineCount s_W_near s_W_sets s_W_through s_p0_findingTimes u_70_0 u_70_1 u_70_2 u_70_3 u_70_4 u_70_5 u_70_6 s_p0_sentTo s_p0_worlds)) [0, 12, 13, 14, 15, 8, 9, 10, 11, 1, 4, 5, 6, 7, 2, 3] rfl rfl ?_
            refine v_aload_n X 0 dX6_alike_73 rfl rfl ?_
            refine v_aload_n X 0 dX6_alike_74 rfl rfl ?_
            refine v_get X 0 7 (F := TX6) (N := 13) iX6_alike_X6 rfl rfl (by decide) (List.mem_of_getElem? (i := 2) rfl) rfl rfl dX6_alike_75 ?_
            refine v_getN X 10 4 (F := TX2) (N := 7) iX6_alike_X2 rfl rfl (by decide) (List.mem_of_getElem? (i := 7) rfl) rfl rfl dX6_alike_78 ?_
            refine v_put X (ws' := (cl_X6_alike T o_p0 a_p0 o_S o_U a_U o_W a_W a_p0_matcher s_p0_sentSize s_p0_latestFinding u_70_1 s_p0_latestAsked s_U_there s_U_kind s_U_tag s_U_size s_U_lineCount s_U_near s_U_sets s_U_through s_W_there s_W_kind s_W_tag s_W_size s_W_lineCount s_W_near s_W_sets s_W_through s_p0_findingTimes u_70_0 u_70_1 u_70_2 u_70_3 u_70_4 u_70_5 u_70_6 s_p0_sentTo s_p0_worlds)) 0 11 (F := TX6) (N := 13) iX6_alike_X6 rfl tyX6 tyX6_ok nmX6 rfl (by decide) (List.mem_of_getElem? (i := 3) rfl) rfl rfl rfl rfl rfl (Nat.le_of_ble_eq_true rfl) rfl dX6_alike_81 ?_
            refine v_aload_n X 0 dX6_alike_84 rfl rfl ?_
            refine v_get X 0 7 (F := TX6) (N := 13) iX6_alike_X6 rfl rfl (by decide) (List.mem_of_getElem? (i := 2) rfl) rfl rfl dX6_alike_85 ?_
            refine v_getN X 10 5 (F := TX2) (N := 7) iX6_alike_X2 rfl rfl (by decide) (List.mem_of_getElem? (i := 8) rfl) rfl rfl dX6_alike_88 ?_
            refine v_if_eq X (tgt := 97) dX6_alike_91 (by decide) (fun c_91 => ?_) (fun c_91 => ?_)
            · replace h := h.1 c_91
              refine v_aload_n X 0 dX6_alike_97 rfl rfl ?_
              refine v_get X 0 7 (F := TX6) (N := 13) iX6_alike_X6 rfl rfl (by decide) (List.mem_of_getElem? (i := 2) rfl) rfl rfl dX6_alike_98 ?_
              refine v_getN X 10 6 (F := TX2) (N := 7) iX6_alike_X2 rfl rfl (by decide) (List.mem_of_getElem? (i := 9) rfl) rfl rfl dX6_alike_101 ?_
              refine v_if_ne X (tgt := 109) dX6_alike_104 (by decide) (fun c_104 => ?_) (fun c_104 => ?_)
              · replace h := h.1 c_104
                refine v_aload_n X 0 dX6_alike_109 rfl rfl ?_
                refine v_aload_n X 0 dX6_alike_110 rfl rfl ?_
                refine v_get X 0 0 (F := TX6) (N := 13) iX6_alike_X6 rfl rfl (by decide) (List.mem_of_getElem? (i := 1) rfl) rfl rfl dX6_alike_111 ?_
                refine v_iload_n X 1 dX6_alike_114 rfl rfl ?_
                refine v_aald X 15 2 rfl rfl h.1 h.2.1 dX6_alike_115 ?_
                replace h := h.2.2
                refine v_getN X 5 6 (F := TX5) (N := 8) iX6_alike_X5 rfl rfl (by decide) (List.mem_of_getElem? (i := 29) rfl) rfl rfl dX6_alike_116 ?_
                refine v_put X (ws' := (cl_X6_alike T o_p0 a_p0 o_S o_U a_U o_W a_W a_p0_matcher s_W_size s_p0_latestFinding u_70_1 s_p0_latestAsked s_U_there s_U_kind s_U_tag s_U_size s_U_lineCount s_U_near s_U_sets s_U_through s_W_there s_W_kind s_W_tag s_W_size s_W_lineCount s_W_near s_W_sets s_W_through s_p0_findingTimes u_70_0 u_70_1 u_70_2 u_70_3 u_70_4 u_70_5 u_70_6 s_p0_sentTo s_p0_worlds)) 0 9 (F := TX6) (N := 13) iX6_alike_X6 rfl tyX6 tyX6_ok nmX6 rfl (by decide) (List.mem_of_getElem? (i := 4) rfl) rfl rfl rfl rfl rfl (Nat.le_of_ble_eq_true rfl) rfl dX6_alike_119 ?_
                refine v_aload_n X 0 dX6_alike_122 rfl rfl ?_
                refine v_get X 0 7 (F := TX6) (N := 13) iX6_alike_X6 rfl rfl (by decide) (List.mem_of_getElem? (i := 2) rfl) rfl rfl dX6_alike_123 ?_
                refine v_getN X 10 0 (F := TX2) (N := 7) iX6_alike_X2 rfl rfl (by decide) (List.mem_of_getElem? (i := 6) rfl) rfl rfl dX6_alike_126 ?_
                refine v_iconst X dX6_alike_129 (v := (0 : Int32)) (by decide) ?_
                refine v_aload_n X 0 dX6_alike_130 rfl rfl ?_
                refine v_get X 0 4 (F := TX6) (N := 13) iX6_alike_X6 rfl rfl (by decide) (List.mem_of_getElem? (i := 5) rfl) rfl rfl dX6_alike_131 ?_
                refine v_iconst X dX6_alike_134 (v := (0 : Int32)) (by decide) ?_
                refine v_aload_n X 0 dX6_alike_135 rfl rfl ?_
                refine v_get X 0 9 (F := TX6) (N := 13) iX6_alike_X6 rfl rfl (by decide) (List.mem_of_getElem? (i := 4) rfl) rfl rfl dX6_alike_136 ?_
                refine v_copyi X (ws' := (cl_X6_alike T o_p0 a_p0 o_S o_U a_U o_W a_W a_p0_matcher s_W_size s_p0_latestFinding u_70_1 s_p0_latestAsked s_U_there s_U_kind s_U_tag s_U_size s_U_lineCount s_U_near s_U_sets s_U_through s_W_there s_W_kind s_W_tag s_W_size s_W_lineCount s_W_near s_W_sets s_W_through s_p0_findingTimes u_70_0 u_70_1 u_70_2 u_70_3 u_70_4 u_70_5 u_70_6 (va_cpy u_70_4 s_p0_sentTo ((0 : Int32)).toNatClampNeg ((0 : Int32)).toNatClampNeg (s_W_size).toNatClampNeg) s_p0_worlds)) 11 14 0 0 (List.mem_of_getElem? (i := 6) rfl) (List.mem_of_getElem? (i := 7) rfl) (List.mem_of_getElem? (i := 8) rfl) (List.mem_of_getElem? (i := 9) rfl) rfl rfl rfl rfl h.1 h.2.1 h.2.2.1 h.2.2.2.1 h.2.2.2.2.1 (by decide) (by decide) rfl dX6_alike_139 ?_
                replace h := h.2.2.2.2.2
                refine v_iconst X dX6_alike_142 (v := (1 : Int32)) (by decide) ?_
                exact r _ _ _ (s_W_size, s_p0_latestFinding, u_70_1, s_p0_findingTimes, u_70_0, u_70_1, u_70_2, u_70_3, u_70_4, u_70_5, u_70_6, (va_cpy u_70_4 s_p0_sentTo ((0 : Int32)).toNatClampNeg ((0 : Int32)).toNatClampNeg (s_W_size).toNatClampNeg)) _ dX6_alike_143 h rfl
              · replace h := h.2 c_104
                refine v_iconst X dX6_alike_107 (v := (0 : Int32)) (by decide) ?_
                exact r _ _ _ (s_p0_sentSize, s_p0_latestFinding, u_70_1, s_p0_findingTimes, u_70_0, u_70_1, u_70_2, u_70_3, u_70_4, u_70_5, u_70_6, s_p0_sentTo) _ dX6_alike_108 h rfl
            · replace h := h.2 c_91
              refine v_bipush X dX6_alike_94 (v := (-6 : Int32)) (by decide) ?_
              exact r _ _ _ (s_p0_sentSize, s_p0_latestFinding, u_70_1, s_p0_findingTimes, u_70_0, u_70_1, u_70_2, u_70_3, u_70_4, u_70_5, u_70_6, s_p0_sentTo) _ dX6_alike_96 h rfl
          · replace h := h.2 c_44
            refine v_lv (lv' := [(0, .ref o_p0)]) [0] rfl ?_
            exact k_X6_alike_47 X r h
      · replace h := h.2 c_18
        refine v_lv (lv' := []) [] rfl ?_
        exact k_X6_alike_21 X r h
abbrev cl_X6_alike_a (T : Nat → ClassId) (o_p0 : Nat) (a_p0 : Nat → Nat) (o_S : Nat) (o_W : Nat) (a_W : Nat → Nat) (a_p0_matcher : Nat → Nat) (s_p0_sentSize : Int32) (s_p0_latestFinding : Int32) (s_p0_latestTries : Int32) (s_p0_latestAsked : Int64) (s_W_there : Int32) (s_W_kind : Int32) (s_W_tag : Int32) (s_W_size : Int32) (s_W_lineCount : Int32) (s_W_near : Nat → Int64) (s_W_sets : Nat → Int64) (s_W_through : Nat → Int64) (s_p0_findingTimes : Nat → Int32) (s_p0_matcher_depth : Int32) (s_p0_matcher_tryCount : Int32) (s_p0_matcher_isSpent : Int32) (s_p0_matcher_isFound : Int32) (s_p0_matcher_images : Nat → Int32) (s_p0_matcher_left : Nat → Int64) (s_p0_matcher_used : Nat → Int64) (s_p0_sentTo : Nat → Int32) (s_p0_worlds : Nat → Option Nat) : va_W := [vO o_p0 3 [.ref (a_p0 0), .ref (a_p0 1), .ref (a_p0 2), .ref (a_p0 3), .ref (a_p0 4), .ref (a_p0 5), .ref (a_p0 6), .ref (a_p0 7), .ref o_S, .int s_p0_sentSize, .int s_p0_latestFinding, .int s_p0_latestTries, .long s_p0_latestAsked], vO o_W 2 [.ref (a_W 0), .ref (a_W 1), .ref (a_W 2), .int s_W_there, .int s_W_kind, .int s_W_tag, .int s_W_size, .int s_W_lineCount], vJ T (a_W 2) 45 s_W_near, vJ T (a_W 0) 45 s_W_sets, vJ T (a_W 1) 45 s_W_through, vI T (a_p0 3) 6 s_p0_findingTimes, vO (a_p0 7) 0 [.ref (a_p0_matcher 0), .ref (a_p0_matcher 1), .ref (a_p0_matcher 2), .int s_p0_matcher_depth, .int s_p0_matcher_tryCount, .int s_p0_matcher_isSpent, .int s_p0_matcher_isFound], vI T (a_p0_matcher 0) 45 s_p0_matcher_images, vJ T (a_p0_matcher 2) 46 s_p0_matcher_left, vJ T (a_p0_matcher 1) 46 s_p0_matcher_used, vI T (a_p0 4) 45 s_p0_sentTo, vR T 2 (a_p0 0) 6 s_p0_worlds]
abbrev r_X6_alike_a (E : vE) (T : Nat → ClassId) (o_p0 : Nat) (a_p0 : Nat → Nat) (o_S : Nat) (o_W : Nat) (a_W : Nat → Nat) (a_p0_matcher : Nat → Nat) (s_p0_latestAsked : Int64) (s_W_there : Int32) (s_W_kind : Int32) (s_W_tag : Int32) (s_W_size : Int32) (s_W_lineCount : Int32) (s_W_near : Nat → Int64) (s_W_sets : Nat → Int64) (s_W_through : Nat → Int64) (s_p0_worlds : Nat → Option Nat) (Q : Int32 → (Int32) → (Int32) → (Int32) → (Nat → Int32) → (Int32) → (Int32) → (Int32) → (Int32) → (Nat → Int32) → (Nat → Int64) → (Nat → Int64) → (Nat → Int32) → Prop) : Prop := vRi E cX6_alike (fun v (u : (Int32) × (Int32) × (Int32) × (Nat → Int32) × (Int32) × (Int32) × (Int32) × (Int32) × (Nat → Int32) × (Nat → Int64) × (Nat → Int64) × (Nat → Int32)) => Q v u.1 u.2.1 u.2.2.1 u.2.2.2.1 u.2.2.2.2.1 u.2.2.2.2.2.1 u.2.2.2.2.2.2.1 u.2.2.2.2.2.2.2.1 u.2.2.2.2.2.2.2.2.1 u.2.2.2.2.2.2.2.2.2.1 u.2.2.2.2.2.2.2.2.2.2.1 u.2.2.2.2.2.2.2.2.2.2.2) (fun (u : (Int32) × (Int32) × (Int32) × (Nat → Int32) × (Int32) × (Int32) × (Int32) × (Int32) × (Nat → Int32) × (Nat → Int64) × (Nat → Int64) × (Nat → Int32)) => (cl_X6_alike_a T o_p0 a_p0 o_S o_W a_W a_p0_matcher u.1 u.2.1 u.2.2.1 s_p0_latestAsked s_W_there s_W_kind s_W_tag s_W_size s_W_lineCount s_W_near s_W_sets s_W_through u.2.2.2.1 u.2.2.2.2.1 u.2.2.2.2.2.1 u.2.2.2.2.2.2.1 u.2.2.2.2.2.2.2.1 u.2.2.2.2.2.2.2.2.1 u.2.2.2.2.2.2.2.2.2.1 u.2.2.2.2.2.2.2.2.2.2.1 u.2.2.2.2.2.2.2.2.2.2.2 s_p0_worlds))
set_option maxHeartbeats 4000000 in
set_option maxRecDepth 100000 in
theorem k_X6_alike_47_a {E : vE} {T : Nat → ClassId} {o_p0 : Nat} {a_p0 : Nat → Nat} {o_S : Nat} {o_W : Nat} {a_W : Nat → Nat} {a_p0_matcher : Nat → Nat} {s_p0_sentSize : Int32} {s_p0_latestFinding : Int32} {s_p0_latestTries : Int32} {s_p0_latestAsked : Int64} {s_W_there : Int32} {s_W_kind : Int32} {s_W_tag : Int32} {s_W_size : Int32} {s_W_lineCount : Int32} {s_W_near : Nat → Int64} {s_W_sets : Nat → Int64} {s_W_through : Nat → Int64} {s_p0_findingTimes : Nat → Int32} {s_p0_matcher_depth : Int32} {s_p0_matcher_tryCount : Int32} {s_p0_matcher_isSpent : Int32} {s_p0_matcher_isFound : Int32} {s_p0_matcher_images : Nat → Int32} {s_p0_matcher_left : Nat → Int64} {s_p0_matcher_used : Nat → Int64} {s_p0_sentTo : Nat → Int32} {s_p0_worlds : Nat → Option Nat} {Q : Int32 → (Int32) → (Int32) → (Int32) → (Nat → Int32) → (Int32) → (Int32) → (Int32) → (Int32) → (Nat → Int32) → (Nat → Int64) → (Nat → Int64) → (Nat → Int32) → Prop} (X : vX E cX6_alike 4 RX6 wsX6_alike (vT T) (vr 6 147)) (r : r_X6_alike_a E T o_p0 a_p0 o_S o_W a_W a_p0_matcher s_p0_latestAsked s_W_there s_W_kind s_W_tag s_W_size s_W_lineCount s_W_near s_W_sets s_W_through s_p0_worlds Q) (h : w_X6_alike_47 s_p0_sentSize s_p0_latestFinding s_p0_latestTries s_W_there s_W_size s_W_lineCount s_W_near s_W_sets s_W_through s_W_there s_W_size s_W_lineCount s_W_near s_W_sets s_W_through s_p0_findingTimes s_p0_matcher_depth s_p0_matcher_tryCount s_p0_matcher_isSpent s_p0_matcher_isFound s_p0_matcher_images s_p0_matcher_left s_p0_matcher_used s_p0_sentTo s_p0_worlds o_W o_W Q) : V E 0 0 47 [(0, .ref o_p0)] [] (cl_X6_alike_a T o_p0 a_p0 o_S o_W a_W a_p0_matcher s_p0_sentSize s_p0_latestFinding s_p0_latestTries s_p0_latestAsked s_W_there s_W_kind s_W_tag s_W_size s_W_lineCount s_W_near s_W_sets s_W_through s_p0_findingTimes s_p0_matcher_depth s_p0_matcher_tryCount s_p0_matcher_isSpent s_p0_matcher_isFound s_p0_matcher_images s_p0_matcher_left s_p0_matcher_used s_p0_sentTo s_p0_worlds) := by
  unfold w_X6_alike_47 at h
  refine v_aload_n X 0 dX6_alike_47 rfl rfl ?_
  refine v_iconst X dX6_alike_48 (v := (1 : Int32)) (by decide) ?_
  refine v_callVi X (As := [.int (1 : Int32)]) (rest := []) 1 0 (c_X6_refused (l := vl E) (D := vD E) (T := T) (o_p0 := o_p0) (a_p0 := a_p0) (o_S := o_S) (s_p0_sentSize := s_p0_sentSize) (s_p0_latestFinding := s_p0_latestFinding) (s_p0_latestTries := s_p0_latestTries) (s_p0_latestAsked := s_p0_latestAsked) (s_p0_findingTimes := s_p0_findingTimes) (x_1 := (1 : Int32)) h) gX6_alike_X6_refused rfl rfl (by decide +kernel) ⟨Nat.zero_le _, Nat.zero_le _⟩ ⟨rfl, rfl, by decide, by decide⟩ (Nat.le_of_ble_eq_true rfl) rfl rfl (wr := [vO o_W 2 [.ref (a_W 0), .ref (a_W 1), .ref (a_W 2), .int s_W_there, .int s_W_kind, .int s_W_tag, .int s_W_size, .int s_W_lineCount], vJ T (a_W 2) 45 s_W_near, vJ T (a_W 0) 45 s_W_sets, vJ T (a_W 1) 45 s_W_through, vO (a_p0 7) 0 [.ref (a_p0_matcher 0), .ref (a_p0_matcher 1), .ref (a_p0_matcher 2), .int s_p0_matcher_depth, .int s_p0_matcher_tryCount, .int s_p0_matcher_isSpent, .int s_p0_matcher_isFound], vI T (a_p0_matcher 0) 45 s_p0_matcher_images, vJ T (a_p0_matcher 2) 46 s_p0_matcher_left, vJ T (a_p0_matcher 1) 46 s_p0_matcher_used, vI T (a_p0 4) 45 s_p0_sentTo, vR T 2 (a_p0 0) 6 s_p0_worlds]) [0, 5] [1, 2, 3, 4, 6, 7, 8, 9, 10, 11] rfl rfl rfl rfl (by decide) rfl dX6_alike_49 (fun r_49 u h => ?_)
  obtain ⟨u_49_0, u_49_1⟩ := u
  dsimp only at h
  refine v_ws (ws' := (cl_X6_alike_a T o_p0 a_p0 o_S o_W a_W a_p0_matcher s_p0_sentSize u_49_0 s_p0_latestTries s_p0_latestAsked s_W_there s_W_kind s_W_tag s_W_size s_W_lineCount s_W_near s_W_sets s_W_through u_49_1 s_p0_matcher_depth s_p0_matcher_tryCount s_p0_matcher_isSpent s_p0_matcher_isFound s_p0_matcher_images s_p0_matcher_left s_p0_matcher_used s_p0_sentTo s_p0_worlds)) [10, 0, 1, 2, 3, 11, 4, 5, 6, 7, 8, 9] rfl rfl ?_
  exact r _ _ _ (s_p0_sentSize, u_49_0, s_p0_latestTries, u_49_1, s_p0_matcher_depth, s_p0_matcher_tryCount, s_p0_matcher_isSpent, s_p0_matcher_isFound, s_p0_matcher_images, s_p0_matcher_left, s_p0_matcher_used, s_p0_sentTo) _ dX6_alike_52 h rfl
set_option maxHeartbeats 4000000 in
set_option maxRecDepth 100000 in
theorem k_X6_alike_21_a {E : vE} {T : Nat → ClassId} {o_p0 : Nat} {a_p0 : Nat → Nat} {o_S : Nat} {o_W : Nat} {a_W : Nat → Nat} {a_p0_matcher : Nat → Nat} {s_p0_sentSize : Int32} {s_p0_latestFinding : Int32} {s_p0_latestTries : Int32} {s_p0_latestAsked : Int64} {s_W_there : Int32} {s_W_kind : Int32} {s_W_tag : Int32} {s_W_size : Int32} {s_W_lineCount : Int32} {s_W_near : Nat → Int64} {s_W_sets : Nat → Int64} {s_W_through : Nat → Int64} {s_p0_findingTimes : Nat → Int32} {s_p0_matcher_depth : Int32} {s_p0_matcher_tryCount : Int32} {s_p0_matcher_isSpent : Int32} {s_p0_matcher_isFound : Int32} {s_p0_matcher_images : Nat → Int32} {s_p0_matcher_left : Nat → Int64} {s_p0_matcher_used : Nat → Int64} {s_p0_sentTo : Nat → Int32} {s_p0_worlds : Nat → Option Nat} {Q : Int32 → (Int32) → (Int32) → (Int32) → (Nat → Int32) → (Int32) → (Int32) → (Int32) → (Int32) → (Nat → Int32) → (Nat → Int64) → (Nat → Int64) → (Nat → Int32) → Prop} (X : vX E cX6_alike 4 RX6 wsX6_alike (vT T) (vr 6 147)) (r : r_X6_alike_a E T o_p0 a_p0 o_S o_W a_W a_p0_matcher s_p0_latestAsked s_W_there s_W_kind s_W_tag s_W_size s_W_lineCount s_W_near s_W_sets s_W_through s_p0_worlds Q) (h : w_X6_alike_21 s_p0_sentSize s_p0_latestFinding s_p0_latestTries s_W_there s_W_size s_W_lineCount s_W_near s_W_sets s_W_through s_W_there s_W_size s_W_lineCount s_W_near s_W_sets s_W_through s_p0_findingTimes s_p0_matcher_depth s_p0_matcher_tryCount s_p0_matcher_isSpent s_p0_matcher_isFound s_p0_matcher_images s_p0_matcher_left s_p0_matcher_used s_p0_sentTo s_p0_worlds o_W o_W Q) : V E 0 0 21 [] [] (cl_X6_alike_a T o_p0 a_p0 o_S o_W a_W a_p0_matcher s_p0_sentSize s_p0_latestFinding s_p0_latestTries s_p0_latestAsked s_W_there s_W_kind s_W_tag s_W_size s_W_lineCount s_W_near s_W_sets s_W_through s_p0_findingTimes s_p0_matcher_depth s_p0_matcher_tryCount s_p0_matcher_isSpent s_p0_matcher_isFound s_p0_matcher_images s_p0_matcher_left s_p0_matcher_used s_p0_sentTo s_p0_worlds) := by
  unfold w_X6_alike_21 at h
  refine v_iconst X dX6_alike_21 (v := (-1 : Int32)) (by decide) ?_
  exact r _ _ _ (s_p0_sentSize, s_p0_latestFinding, s_p0_latestTries, s_p0_findingTimes, s_p0_matcher_depth, s_p0_matcher_tryCount, s_p0_matcher_isSpent, s_p0_matcher_isFound, s_p0_matcher_images, s_p0_matcher_left, s_p0_matcher_used, s_p0_sentTo) _ dX6_alike_22 h rfl
set_option maxHeartbeats 4000000 in
set_option maxRecDepth 100000 in
theorem c_X6_alike_a {l : Launch} {D : va_G} {T : Nat → ClassId} {o_p0 : Nat} {a_p0 : Nat → Nat} {o_S : Nat} {o_W : Nat} {a_W : Nat → Nat} {a_p0_matcher : Nat → Nat} {s_p0_sentSize : Int32} {s_p0_latestFinding : Int32} {s_p0_latestTries : Int32} {s_p0_latestAsked : Int64} {s_W_there : Int32} {s_W_kind : Int32} {s_W_tag : Int32} {s_W_size : Int32} {s_W_lineCount : Int32} {s_W_near : Nat → Int64} {s_W_sets : Nat → Int64} {s_W_through : Nat → Int64} {s_p0_findingTimes : Nat → Int32} {s_p0_matcher_depth : Int32} {s_p0_matcher_tryCount : Int32} {s_p0_matcher_isSpent : Int32} {s_p0_matcher_isFound : Int32} {s_p0_matcher_images : Nat → Int32} {s_p0_matcher_left : Nat → Int64} {s_p0_matcher_used : Nat → Int64} {s_p0_sentTo : Nat → Int32} {s_p0_worlds : Nat → Option Nat} {x_1 : Int32} {x_2 : Int32} {x_3 : Int32} {Q : Int32 → (Int32) → (Int32) → (Int32) → (Nat → Int32) → (Int32) → (Int32) → (Int32) → (Int32) → (Nat → Int32) → (Nat → Int64) → (Nat → Int64) → (Nat → Int32) → Prop} (h : w_X6_alike x_1 x_2 x_3 s_p0_sentSize s_p0_latestFinding s_p0_latestTries s_W_there s_W_size s_W_lineCount s_W_near s_W_sets s_W_through s_W_there s_W_size s_W_lineCount s_W_near s_W_sets s_W_through s_p0_findingTimes s_p0_matcher_depth s_p0_matcher_tryCount s_p0_matcher_isSpent s_p0_matcher_isFound s_p0_matcher_images s_p0_matcher_left s_p0_matcher_used s_p0_sentTo s_p0_worlds o_W o_W Q) : vCi l D (vT T) yX6_alike wsX6_alike (vr 6 147) [.ref o_p0, .int x_1, .int x_2, .int x_3] (cl_X6_alike_a T o_p0 a_p0 o_S o_W a_W a_p0_matcher s_p0_sentSize s_p0_latestFinding s_p0_latestTries s_p0_latestAsked s_W_there s_W_kind s_W_tag s_W_size s_W_lineCount s_W_near s_W_sets s_W_through s_p0_findingTimes s_p0_matcher_depth s_p0_matcher_tryCount s_p0_matcher_isSpent s_p0_matcher_isFound s_p0_matcher_images s_p0_matcher_left s_p0_matcher_used s_p0_sentTo s_p0_worlds) (fun v (u : (Int32) × (Int32) × (Int32) × (Nat → Int32) × (Int32) × (Int32) × (Int32) × (Int32) × (Nat → Int32) × (Nat → Int64) × (Nat → Int64) × (Nat → Int32)) => Q v u.1 u.2.1 u.2.2.1 u.2.2.2.1 u.2.2.2.2.1 u.2.2.2.2.2.1 u.2.2.2.2.2.2.1 u.2.2.2.2.2.2.2.1 u.2.2.2.2.2.2.2.2.1 u.2.2.2.2.2.2.2.2.2.1 u.2.2.2.2.2.2.2.2.2.2.1 u.2.2.2.2.2.2.2.2.2.2.2) (fun (u : (Int32) × (Int32) × (Int32) × (Nat → Int32) × (Int32) × (Int32) × (Int32) × (Int32) × (Nat → Int32) × (Nat → Int64) × (Nat → Int64) × (Nat → Int32)) => (cl_X6_alike_a T o_p0 a_p0 o_S o_W a_W a_p0_matcher u.1 u.2.1 u.2.2.1 s_p0_latestAsked s_W_there s_W_kind s_W_tag s_W_size s_W_lineCount s_W_near s_W_sets s_W_through u.2.2.2.1 u.2.2.2.2.1 u.2.2.2.2.2.1 u.2.2.2.2.2.2.1 u.2.2.2.2.2.2.2.1 u.2.2.2.2.2.2.2.2.1 u.2.2.2.2.2.2.2.2.2.1 u.2.2.2.2.2.2.2.2.2.2.1 u.2.2.2.2.2.2.2.2.2.2.2 s_p0_worlds)) := by
  refine vC_i (cc := cX6_alike) (nL := 4) (by decide +kernel) rfl ⟨rfl, rfl⟩ (Nat.le_of_ble_eq_true rfl) rfl ?_
  intro E el eD X r
  unfold w_X6_alike at h
  refine v_iload_n X 1 dX6_alike_0 rfl rfl ?_
  refine v_callSi0 X (As := [.int x_1]) (rest := []) 1 (c_X6_isWorldNumber (l := vl E) (D := vD E) (T := T) (x_0 := x_1) h) gX6_alike_X6_isWorldNumber rfl rfl (by decide +kernel) ⟨Nat.zero_le _, Nat.zero_le _⟩ ⟨rfl, rfl, by decide, by decide⟩ (Nat.le_of_ble_eq_true rfl) rfl dX6_alike_1 (fun r_1 h => ?_)
  refine v_if_eq X (tgt := 21) dX6_alike_4 (by decide) (fun c_4 => ?_) (fun c_4 => ?_)
  · replace h := h.1 c_4
    refine v_lv (lv' := []) [] rfl ?_
    exact k_X6_alike_21_a X r h
  · replace h := h.2 c_4
    refine v_iload_n X 2 dX6_alike_7 rfl rfl ?_
    refine v_callSi0 X (As := [.int x_2]) (rest := []) 1 (c_X6_isWorldNumber (l := vl E) (D := vD E) (T := T) (x_0 := x_2) h) gX6_alike_X6_isWorldNumber rfl rfl (by decide +kernel) ⟨Nat.zero_le _, Nat.zero_le _⟩ ⟨rfl, rfl, by decide, by decide⟩ (Nat.le_of_ble_eq_true rfl) rfl dX6_alike_8 (fun r_8 h => ?_)
    refine v_if_eq X (tgt := 21) dX6_alike_11 (by decide) (fun c_11 => ?_) (fun c_11 => ?_)
    · replace h := h.1 c_11
      refine v_lv (lv' := []) [] rfl ?_
      exact k_X6_alike_21_a X r h
    · replace h := h.2 c_11
      refine v_iload_n X 3 dX6_alike_14 rfl rfl ?_
      refine v_callSi0 X (As := [.int x_3]) (rest := []) 1 (c_X6_isNumberOfTries (l := vl E) (D := vD E) (T := T) (x_0 := x_3) h) gX6_alike_X6_isNumberOfTries rfl rfl (by decide +kernel) ⟨Nat.zero_le _, Nat.zero_le _⟩ ⟨rfl, rfl, by decide, by decide⟩ (Nat.le_of_ble_eq_true rfl) rfl dX6_alike_15 (fun r_15 h => ?_)
      refine v_if_ne X (tgt := 23) dX6_alike_18 (by decide) (fun c_18 => ?_) (fun c_18 => ?_)
      · replace h := h.1 c_18
        refine v_aload_n X 0 dX6_alike_23 rfl rfl ?_
        refine v_get X 0 0 (F := TX6) (N := 13) iX6_alike_X6 rfl rfl (by decide) (List.mem_of_getElem? (i := 1) rfl) rfl rfl dX6_alike_24 ?_
        refine v_iload_n X 1 dX6_alike_27 rfl rfl ?_
        refine v_aald X 11 2 rfl rfl h.1 h.2.1 dX6_alike_28 ?_
        replace h := h.2.2
        refine v_getN X 1 3 (F := TX5) (N := 8) iX6_alike_X5 rfl rfl (by decide) (List.mem_of_getElem? (i := 23) rfl) rfl rfl dX6_alike_29 ?_
        refine v_if_eq X (tgt := 47) dX6_alike_32 (by decide) (fun c_32 => ?_) (fun c_32 => ?_)
        · replace h := h.1 c_32
          refine v_lv (lv' := [(0, .ref o_p0)]) [0] rfl ?_
          exact k_X6_alike_47_a X r h
        · replace h := h.2 c_32
          refine v_aload_n X 0 dX6_alike_35 rfl rfl ?_
          refine v_get X 0 0 (F := TX6) (N := 13) iX6_alike_X6 rfl rfl (by decide) (List.mem_of_getElem? (i := 1) rfl) rfl rfl dX6_alike_36 ?_
          refine v_iload_n X 2 dX6_alike_39 rfl rfl ?_
          refine v_aald X 11 2 rfl rfl h.1 h.2.1 dX6_alike_40 ?_
          replace h := h.2.2
          refine v_getN X 1 3 (F := TX5) (N := 8) iX6_alike_X5 rfl rfl (by decide) (List.mem_of_getElem? (i := 23) rfl) rfl rfl dX6_alike_41 ?_
          refine v_if_ne X (tgt := 53) dX6_alike_44 (by decide) (fun c_44 => ?_) (fun c_44 => ?_)
          · replace h := h.1 c_44
            refine v_aload_n X 0 dX6_alike_53 rfl rfl ?_
            refine v_get X 0 7 (F := TX6) (N := 13) iX6_alike_X6 rfl rfl (by decide) (List.mem_of_getElem? (i := 2) rfl) rfl rfl dX6_alike_54 ?_
            refine v_aload_n X 0 dX6_alike_57 rfl rfl ?_
            refine v_get X 0 0 (F := TX6) (N := 13) iX6_alike_X6 rfl rfl (by decide) (List.mem_of_getElem? (i := 1) rfl) rfl rfl dX6_alike_58 ?_
            refine v_iload_n X 1 dX6_alike_61 rfl rfl ?_
            refine v_aald X 11 2 rfl rfl h.1 h.2.1 dX6_alike_62 ?_
            replace h := h.2.2
            refine v_aload_n X 0 dX6_alike_63 rfl rfl ?_
            refine v_get X 0 0 (F := TX6) (N := 13) iX6_alike_X6 rfl rfl (by decide) (List.mem_of_getElem? (i := 1) rfl) rfl rfl dX6_alike_64 ?_
            refine v_iload_n X 2 dX6_alike_67 rfl rfl ?_
            refine v_aald X 11 2 rfl rfl h.1 h.2.1 dX6_alike_68 ?_
            replace h := h.2.2
            refine v_iload_n X 3 dX6_alike_69 rfl rfl ?_
            refine v_callVv X (As := [.ref o_W, .ref o_W, .int x_3]) (rest := []) 3 0 (c_X2_match_a (l := vl E) (D := vD E) (T := T) (o_p0 := (a_p0 7)) (a_p0 := a_p0_matcher) (o_p1 := o_W) (a_p1 := a_W) (s_p0_depth := s_p0_matcher_depth) (s_p0_tryCount := s_p0_matcher_tryCount) (s_p0_isSpent := s_p0_matcher_isSpent) (s_p0_isFound := s_p0_matcher_isFound) (s_p0_images := s_p0_matcher_images) (s_p0_left := s_p0_matcher_left) (s_p0_used := s_p0_matcher_used) (s_p1_there := s_W_there) (s_p1_kind := s_W_kind) (s_p1_tag := s_W_tag) (s_p1_size := s_W_size) (s_p1_lineCount := s_W_lineCount) (s_p1_near := s_W_near) (s_p1_sets := s_W_sets) (s_p1_through := s_W_through) (x_3 := x_3) h) gX6_alike_X2_match rfl rfl (by decide +kernel) ⟨Nat.zero_le _, Nat.zero_le _⟩ ⟨rfl, rfl, by decide, by decide⟩ (Nat.le_of_ble_eq_true rfl) rfl rfl (wr := [vO o_p0 3 [.ref (a_p0 0), .ref (a_p0 1), .ref (a_p0 2), .ref (a_p0 3), .ref (a_p0 4), .ref (a_p0 5), .ref (a_p0 6), .ref (a_p0 7), .ref o_S, .int s_p0_sentSize, .int s_p0_latestFinding, .int s_p0_latestTries, .long s_p0_latestAsked], vI T (a_p0 3) 6 s_p0_findingTimes, vI T (a_p0 4) 45 s_p0_sentTo, vR T 2 (a_p0 0) 6 s_p0_worlds]) [6, 7, 8, 9, 1, 2, 3, 4] [0, 5, 10, 11] rfl rfl rfl rfl (by decide) rfl dX6_alike_70 (fun u h => ?_)
            obtain ⟨u_70_0, u_70_1, u_70_2, u_70_3, u_70_4, u_70_5, u_70_6⟩ := u
            dsimp only at h
            refine v_ws (ws' := (cl_X6_alike_a T o_p0 a_p0 o_S o_W a_W a_p0_matcher s_p0_sentSize s_p0_latestFinding s_p0_latestTries s_p0_latestAsked s_W_there s_W_kind s_W_tag s_W_size s_W_lineCount s_W_near s_W_sets s_W_through s_p0_findingTimes u_70_0 u_70_1 u_70_2 u_70_3 u_70_4 u_70_5 u_70_6 s_p0_sentTo s_p0_worlds)) [0, 8, 9, 10, 11, 1, 4, 5, 6, 7, 2, 3] rfl rfl ?_
            refine v_aload_n X 0 dX6_alike_73 rfl rfl ?_
            refine v_aload_n X 0 dX6_alike_74 rfl rfl ?_
            refine v_get X 0 7 (F := TX6) (N := 13) iX6_alike_X6 rfl rfl (by decide) (List.mem_of_getElem? (i := 2) rfl) rfl rfl dX6_alike_75 ?_
            refine v_getN X 6 4 (F := TX2) (N := 7) iX6_alike_X2 rfl rfl (by decide) (List.mem_of_getElem? (i := 7) rfl) rfl rfl dX6_alike_78 ?_
            refine v_put X (ws' := (cl_X6_alike_a T o_p0 a_p0 o_S o_W a_W a_p0_matcher s_p0_sentSize s_p0_latestFinding u_70_1 s_p0_latestAsked s_W_there s_W_kind s_W_tag s_W_size s_W_lineCount s_W_near s_W_sets s_W_through s_p0_findingTimes u_70_0 u_70_1 u_70_2 u_70_3 u_70_4 u_70_5 u_70_6 s_p0_sentTo s_p0_worlds)) 0 11 (F := TX6) (N := 13) iX6_alike_X6 rfl tyX6 tyX6_ok nmX6 rfl (by decide) (List.mem_of_getElem? (i := 3) rfl) rfl rfl rfl rfl rfl (Nat.le_of_ble_eq_true rfl) rfl dX6_alike_81 ?_
            refine v_aload_n X 0 dX6_alike_84 rfl rfl ?_
            refine v_get X 0 7 (F := TX6) (N := 13) iX6_alike_X6 rfl rfl (by decide) (List.mem_of_getElem? (i := 2) rfl) rfl rfl dX6_alike_85 ?_
            refine v_getN X 6 5 (F := TX2) (N := 7) iX6_alike_X2 rfl rfl (by decide) (List.mem_of_getElem? (i := 8) rfl) rfl rfl dX6_alike_88 ?_
            refine v_if_eq X (tgt := 97) dX6_alike_91 (by decide) (fun c_91 => ?_) (fun c_91 => ?_)
            · replace h := h.1 c_91
              refine v_aload_n X 0 dX6_alike_97 rfl rfl ?_
              refine v_get X 0 7 (F := TX6) (N := 13) iX6_alike_X6 rfl rfl (by decide) (List.mem_of_getElem? (i := 2) rfl) rfl rfl dX6_alike_98 ?_
              refine v_getN X 6 6 (F := TX2) (N := 7) iX6_alike_X2 rfl rfl (by decide) (List.mem_of_getElem? (i := 9) rfl) rfl rfl dX6_alike_101 ?_
              refine v_if_ne X (tgt := 109) dX6_alike_104 (by decide) (fun c_104 => ?_) (fun c_104 => ?_)
              · replace h := h.1 c_104
                refine v_aload_n X 0 dX6_alike_109 rfl rfl ?_
                refine v_aload_n X 0 dX6_alike_110 rfl rfl ?_
                refine v_get X 0 0 (F := TX6) (N := 13) iX6_alike_X6 rfl rfl (by decide) (List.mem_of_getElem? (i := 1) rfl) rfl rfl dX6_alike_111 ?_
                refine v_iload_n X 1 dX6_alike_114 rfl rfl ?_
                refine v_aald X 11 2 rfl rfl h.1 h.2.1 dX6_alike_115 ?_
                replace h := h.2.2
                refine v_getN X 1 6 (F := TX5) (N := 8) iX6_alike_X5 rfl rfl (by decide) (List.mem_of_getElem? (i := 29) rfl) rfl rfl dX6_alike_116 ?_
                refine v_put X (ws' := (cl_X6_alike_a T o_p0 a_p0 o_S o_W a_W a_p0_matcher s_W_size s_p0_latestFinding u_70_1 s_p0_latestAsked s_W_there s_W_kind s_W_tag s_W_size s_W_lineCount s_W_near s_W_sets s_W_through s_p0_findingTimes u_70_0 u_70_1 u_70_2 u_70_3 u_70_4 u_70_5 u_70_6 s_p0_sentTo s_p0_worlds)) 0 9 (F := TX6) (N := 13) iX6_alike_X6 rfl tyX6 tyX6_ok nmX6 rfl (by decide) (List.mem_of_getElem? (i := 4) rfl) rfl rfl rfl rfl rfl (Nat.le_of_ble_eq_true rfl) rfl dX6_alike_119 ?_
                refine v_aload_n X 0 dX6_alike_122 rfl rfl ?_
                refine v_get X 0 7 (F := TX6) (N := 13) iX6_alike_X6 rfl rfl (by decide) (List.mem_of_getElem? (i := 2) rfl) rfl rfl dX6_alike_123 ?_
                refine v_getN X 6 0 (F := TX2) (N := 7) iX6_alike_X2 rfl rfl (by decide) (List.mem_of_getElem? (i := 6) rfl) rfl rfl dX6_alike_126 ?_
                refine v_iconst X dX6_alike_129 (v := (0 : Int32)) (by decide) ?_
                refine v_aload_n X 0 dX6_alike_130 rfl rfl ?_
                refine v_get X 0 4 (F := TX6) (N := 13) iX6_alike_X6 rfl rfl (by decide) (List.mem_of_getElem? (i := 5) rfl) rfl rfl dX6_alike_131 ?_
                refine v_iconst X dX6_alike_134 (v := (0 : Int32)) (by decide) ?_
                refine v_aload_n X 0 dX6_alike_135 rfl rfl ?_
                refine v_get X 0 9 (F := TX6) (N := 13) iX6_alike_X6 rfl rfl (by decide) (List.mem_of_getElem? (i := 4) rfl) rfl rfl dX6_alike_136 ?_
                refine v_copyi X (ws' := (cl_X6_alike_a T o_p0 a_p0 o_S o_W a_W a_p0_matcher s_W_size s_p0_latestFinding u_70_1 s_p0_latestAsked s_W_there s_W_kind s_W_tag s_W_size s_W_lineCount s_W_near s_W_sets s_W_through s_p0_findingTimes u_70_0 u_70_1 u_70_2 u_70_3 u_70_4 u_70_5 u_70_6 (va_cpy u_70_4 s_p0_sentTo ((0 : Int32)).toNatClampNeg ((0 : Int32)).toNatClampNeg (s_W_size).toNatClampNeg) s_p0_worlds)) 7 10 0 0 (List.mem_of_getElem? (i := 6) rfl) (List.mem_of_getElem? (i := 7) rfl) (List.mem_of_getElem? (i := 8) rfl) (List.mem_of_getElem? (i := 9) rfl) rfl rfl rfl rfl h.1 h.2.1 h.2.2.1 h.2.2.2.1 h.2.2.2.2.1 (by decide) (by decide) rfl dX6_alike_139 ?_
                replace h := h.2.2.2.2.2
                refine v_iconst X dX6_alike_142 (v := (1 : Int32)) (by decide) ?_
                exact r _ _ _ (s_W_size, s_p0_latestFinding, u_70_1, s_p0_findingTimes, u_70_0, u_70_1, u_70_2, u_70_3, u_70_4, u_70_5, u_70_6, (va_cpy u_70_4 s_p0_sentTo ((0 : Int32)).toNatClampNeg ((0 : Int32)).toNatClampNeg (s_W_size).toNatClampNeg)) _ dX6_alike_143 h rfl
              · replace h := h.2 c_104
                refine v_iconst X dX6_alike_107 (v := (0 : Int32)) (by decide) ?_
                exact r _ _ _ (s_p0_sentSize, s_p0_latestFinding, u_70_1, s_p0_findingTimes, u_70_0, u_70_1, u_70_2, u_70_3, u_70_4, u_70_5, u_70_6, s_p0_sentTo) _ dX6_alike_108 h rfl
            · replace h := h.2 c_91
              refine v_bipush X dX6_alike_94 (v := (-6 : Int32)) (by decide) ?_
              exact r _ _ _ (s_p0_sentSize, s_p0_latestFinding, u_70_1, s_p0_findingTimes, u_70_0, u_70_1, u_70_2, u_70_3, u_70_4, u_70_5, u_70_6, s_p0_sentTo) _ dX6_alike_96 h rfl
          · replace h := h.2 c_44
            refine v_lv (lv' := [(0, .ref o_p0)]) [0] rfl ?_
            exact k_X6_alike_47_a X r h
      · replace h := h.2 c_18
        refine v_lv (lv' := []) [] rfl ?_
        exact k_X6_alike_21_a X r h
-- X6_sent
abbrev cl_X6_sent (T : Nat → ClassId) (o_p0 : Nat) (a_p0 : Nat → Nat) (o_S : Nat) (s_p0_sentSize : Int32) (s_p0_latestFinding : Int32) (s_p0_latestTries : Int32) (s_p0_latestAsked : Int64) (s_p0_sentTo : Nat → Int32) : va_W := [vO o_p0 3 [.ref (a_p0 0), .ref (a_p0 1), .ref (a_p0 2), .ref (a_p0 3), .ref (a_p0 4), .ref (a_p0 5), .ref (a_p0 6), .ref (a_p0 7), .ref o_S, .int s_p0_sentSize, .int s_p0_latestFinding, .int s_p0_latestTries, .long s_p0_latestAsked], vI T (a_p0 4) 45 s_p0_sentTo]
abbrev r_X6_sent (E : vE) (T : Nat → ClassId) (o_p0 : Nat) (a_p0 : Nat → Nat) (o_S : Nat) (s_p0_sentSize : Int32) (s_p0_latestFinding : Int32) (s_p0_latestTries : Int32) (s_p0_latestAsked : Int64) (s_p0_sentTo : Nat → Int32) (Q : Int32 → Prop) : Prop := vRi E cX6_sent (fun v (u : Unit) => Q v) (fun (u : Unit) => (cl_X6_sent T o_p0 a_p0 o_S s_p0_sentSize s_p0_latestFinding s_p0_latestTries s_p0_latestAsked s_p0_sentTo))
def w_X6_sent_23 (t_0 : Int32) (s_p0_sentSize : Int32) (s_p0_sentTo : Nat → Int32) (Q : Int32 → Prop) : Prop := (Q t_0)
def w_X6_sent_12 (s_p0_sentSize : Int32) (s_p0_sentTo : Nat → Int32) (Q : Int32 → Prop) : Prop := (w_X6_sent_23 (-9 : Int32) s_p0_sentSize s_p0_sentTo Q)
def w_X6_sent (x_1 : Int32) (s_p0_sentSize : Int32) (s_p0_sentTo : Nat → Int32) (Q : Int32 → Prop) : Prop := ((x_1 < 0 → (w_X6_sent_12 s_p0_sentSize s_p0_sentTo Q)) ∧ (¬ x_1 < 0 → ((x_1 < s_p0_sentSize → (vp_in x_1 45 ∧ (w_X6_sent_23 (s_p0_sentTo (x_1).toNatClampNeg) s_p0_sentSize s_p0_sentTo Q))) ∧ (¬ x_1 < s_p0_sentSize → (w_X6_sent_12 s_p0_sentSize s_p0_sentTo Q)))))
-- X6_sent
theorem iX6_sent_X6 : ∀ w ∈ wsX60, w ∈ wsX6_sent := by decide +kernel
set_option maxHeartbeats 4000000 in
set_option maxRecDepth 100000 in
theorem k_X6_sent_23 {E : vE} {T : Nat → ClassId} {o_p0 : Nat} {a_p0 : Nat → Nat} {o_S : Nat} {s_p0_sentSize : Int32} {s_p0_latestFinding : Int32} {s_p0_latestTries : Int32} {s_p0_latestAsked : Int64} {s_p0_sentTo : Nat → Int32} {t_0 : Int32} {Q : Int32 → Prop} (X : vX E cX6_sent 2 RX6 wsX6_sent (vT T) (vr 0 0)) (r : r_X6_sent E T o_p0 a_p0 o_S s_p0_sentSize s_p0_latestFinding s_p0_latestTries s_p0_latestAsked s_p0_sentTo Q) (h : w_X6_sent_23 t_0 s_p0_sentSize s_p0_sentTo Q) : V E 0 0 23 [] [.int t_0] (cl_X6_sent T o_p0 a_p0 o_S s_p0_sentSize s_p0_latestFinding s_p0_latestTries s_p0_latestAsked s_p0_sentTo) := by
  unfold w_X6_sent_23 at h
  exact r _ _ _ () _ dX6_sent_23 h rfl
set_option maxHeartbeats 4000000 in
set_option maxRecDepth 100000 in
theorem k_X6_sent_12 {E : vE} {T : Nat → ClassId} {o_p0 : Nat} {a_p0 : Nat → Nat} {o_S : Nat} {s_p0_sentSize : Int32} {s_p0_latestFinding : Int32} {s_p0_latestTries : Int32} {s_p0_latestAsked : Int64} {s_p0_sentTo : Nat → Int32} {Q : Int32 → Prop} (X : vX E cX6_sent 2 RX6 wsX6_sent (vT T) (vr 0 0)) (r : r_X6_sent E T o_p0 a_p0 o_S s_p0_sentSize s_p0_latestFinding s_p0_latestTries s_p0_latestAsked s_p0_sentTo Q) (h : w_X6_sent_12 s_p0_sentSize s_p0_sentTo Q) : V E 0 0 12 [] [] (cl_X6_sent T o_p0 a_p0 o_S s_p0_sentSize s_p0_latestFinding s_p0_latestTries s_p0_latestAsked s_p0_sentTo) := by
  unfold w_X6_sent_12 at h
  refine v_bipush X dX6_sent_12 (v := (-9 : Int32)) (by decide) ?_
  refine v_goto X (tgt := 23) dX6_sent_14 (by decide) ?_
  exact k_X6_sent_23 X r h
set_option maxHeartbeats 4000000 in
set_option maxRecDepth 100000 in
theorem c_X6_sent {l : Launch} {D : va_G} {T : Nat → ClassId} {o_p0 : Nat} {a_p0 : Nat → Nat} {o_S : Nat} {s_p0_sentSize : Int32} {s_p0_latestFinding : Int32} {s_p0_latestTries : Int32} {s_p0_latestAsked : Int64} {s_p0_sentTo : Nat → Int32} {x_1 : Int32} {Q : Int32 → Prop} (h : w_X6_sent x_1 s_p0_sentSize s_p0_sentTo Q) : vCi l D (vT T) yX6_sent wsX6_sent (vr 0 0) [.ref o_p0, .int x_1] (cl_X6_sent T o_p0 a_p0 o_S s_p0_sentSize s_p0_latestFinding s_p0_latestTries s_p0_latestAsked s_p0_sentTo) (fun v (u : Unit) => Q v) (fun (u : Unit) => (cl_X6_sent T o_p0 a_p0 o_S s_p0_sentSize s_p0_latestFinding s_p0_latestTries s_p0_latestAsked s_p0_sentTo)) := by
  refine vC_i (cc := cX6_sent) (nL := 2) (by decide +kernel) rfl ⟨rfl, rfl⟩ (Nat.le_of_ble_eq_true rfl) rfl ?_
  intro E el eD X r
  unfold w_X6_sent at h
  refine v_iload_n X 1 dX6_sent_0 rfl rfl ?_
  refine v_if_lt X (tgt := 12) dX6_sent_1 (by decide) (fun c_1 => ?_) (fun c_1 => ?_)
  · replace h := h.1 c_1
    refine v_lv (lv' := []) [] rfl ?_
    exact k_X6_sent_12 X r h
  · replace h := h.2 c_1
    refine v_iload_n X 1 dX6_sent_4 rfl rfl ?_
    refine v_aload_n X 0 dX6_sent_5 rfl rfl ?_
    refine v_get X 0 9 (F := TX6) (N := 13) iX6_sent_X6 rfl rfl (by decide) (List.mem_of_getElem? (i := 1) rfl) rfl rfl dX6_sent_6 ?_
    refine v_icmp_lt X (tgt := 17) dX6_sent_9 (by decide) (fun c_9 => ?_) (fun c_9 => ?_)
    · replace h := h.1 c_9
      refine v_aload_n X 0 dX6_sent_17 rfl rfl ?_
      refine v_get X 0 4 (F := TX6) (N := 13) iX6_sent_X6 rfl rfl (by decide) (List.mem_of_getElem? (i := 2) rfl) rfl rfl dX6_sent_18 ?_
      refine v_iload_n X 1 dX6_sent_21 rfl rfl ?_
      refine v_iald X 1 0 rfl rfl h.1 dX6_sent_22 ?_
      replace h := h.2
      refine v_lv (lv' := []) [] rfl ?_
      exact k_X6_sent_23 X r h
    · replace h := h.2 c_9
      refine v_lv (lv' := []) [] rfl ?_
      exact k_X6_sent_12 X r h
-- X6_far
abbrev cl_X6_far (T : Nat → ClassId) (o_p0 : Nat) (a_p0 : Nat → Nat) (o_S : Nat) (o_W : Nat) (a_W : Nat → Nat) (s_p0_sentSize : Int32) (s_p0_latestFinding : Int32) (s_p0_latestTries : Int32) (s_p0_latestAsked : Int64) (s_W_there : Int32) (s_W_kind : Int32) (s_W_tag : Int32) (s_W_size : Int32) (s_W_lineCount : Int32) (s_W_near : Nat → Int64) (s_p0_findingTimes : Nat → Int32) (s_p0_worlds : Nat → Option Nat) : va_W := [vO o_p0 3 [.ref (a_p0 0), .ref (a_p0 1), .ref (a_p0 2), .ref (a_p0 3), .ref (a_p0 4), .ref (a_p0 5), .ref (a_p0 6), .ref (a_p0 7), .ref o_S, .int s_p0_sentSize, .int s_p0_latestFinding, .int s_p0_latestTries, .long s_p0_latestAsked], vO o_W 2 [.ref (a_W 0), .ref (a_W 1), .ref (a_W 2), .int s_W_there, .int s_W_kind, .int s_W_tag, .int s_W_size, .int s_W_lineCount], vJ T (a_W 2) 45 s_W_near, vI T (a_p0 3) 6 s_p0_findingTimes, vR T 2 (a_p0 0) 6 s_p0_worlds]
abbrev r_X6_far (E : vE) (T : Nat → ClassId) (o_p0 : Nat) (a_p0 : Nat → Nat) (o_S : Nat) (o_W : Nat) (a_W : Nat → Nat) (s_p0_sentSize : Int32) (s_p0_latestTries : Int32) (s_p0_latestAsked : Int64) (s_W_there : Int32) (s_W_kind : Int32) (s_W_tag : Int32) (s_W_size : Int32) (s_W_lineCount : Int32) (s_W_near : Nat → Int64) (s_p0_worlds : Nat → Option Nat) (Q : Int32 → (Int32) → (Nat → Int32) → Prop) : Prop := vRi E cX6_far (fun v (u : (Int32) × (Nat → Int32)) => Q v u.1 u.2) (fun (u : (Int32) × (Nat → Int32)) => (cl_X6_far T o_p0 a_p0 o_S o_W a_W s_p0_sentSize u.1 s_p0_latestTries s_p0_latestAsked s_W_there s_W_kind s_W_tag s_W_size s_W_lineCount s_W_near u.2 s_p0_worlds))
def w_X6_far_49 (s_p0_latestFinding : Int32) (s_W_there : Int32) (s_W_size : Int32) (s_W_near : Nat → Int64) (s_p0_findingTimes : Nat → Int32) (s_p0_worlds : Nat → Option Nat) (o_W : Nat) (Q : Int32 → (Int32) → (Nat → Int32) → Prop) : Prop := (w_X6_refused (2 : Int32) s_p0_latestFinding s_p0_findingTimes (fun (r_51 : Int32) (u_51_0 : Int32) (u_51_1 : Nat → Int32) => (Q r_51 u_51_0 u_51_1)))
def w_X6_far (x_1 : Int32) (x_2 : Int32) (x_3 : Int32) (s_p0_latestFinding : Int32) (s_W_there : Int32) (s_W_size : Int32) (s_W_near : Nat → Int64) (s_p0_findingTimes : Nat → Int32) (s_p0_worlds : Nat → Option Nat) (o_W : Nat) (Q : Int32 → (Int32) → (Nat → Int32) → Prop) : Prop := (w_X6_isWorldNumber x_1 (fun (r_1 : Int32) => ((¬ r_1 = 0 → (vp_in x_1 6 ∧ s_p0_worlds (x_1).toNatClampNeg = some o_W ∧ ((¬ s_W_there = 0 → (w_X5_hasPoint x_2 s_W_size (fun (r_34 : Int32) => ((r_34 = 0 → (w_X6_far_49 s_p0_latestFinding s_W_there s_W_size s_W_near s_p0_findingTimes s_p0_worlds o_W Q)) ∧ (¬ r_34 = 0 → (w_X5_hasPoint x_3 s_W_size (fun (r_43 : Int32) => ((¬ r_43 = 0 → (w_X5_stepsBetween x_2 x_3 s_W_size s_W_near (fun (r_59 : Int32) => (Q r_59 s_p0_latestFinding s_p0_findingTimes)))) ∧ (r_43 = 0 → (w_X6_far_49 s_p0_latestFinding s_W_there s_W_size s_W_near s_p0_findingTimes s_p0_worlds o_W Q)))))))))) ∧ (s_W_there = 0 → (w_X6_refused (1 : Int32) s_p0_latestFinding s_p0_findingTimes (fun (r_27 : Int32) (u_27_0 : Int32) (u_27_1 : Nat → Int32) => (Q r_27 u_27_0 u_27_1))))))) ∧ (r_1 = 0 → (Q (-1 : Int32) s_p0_latestFinding s_p0_findingTimes)))))
-- X6_far
theorem iX6_far_X5 : ∀ w ∈ wsX50, w ∈ wsX6_far := by decide +kernel
theorem iX6_far_X6 : ∀ w ∈ wsX60, w ∈ wsX6_far := by decide +kernel
set_option maxHeartbeats 4000000 in
set_option maxRecDepth 100000 in
theorem k_X6_far_49 {E : vE} {T : Nat → ClassId} {o_p0 : Nat} {a_p0 : Nat → Nat} {o_S : Nat} {o_W : Nat} {a_W : Nat → Nat} {s_p0_sentSize : Int32} {s_p0_latestFinding : Int32} {s_p0_latestTries : Int32} {s_p0_latestAsked : Int64} {s_W_there : Int32} {s_W_kind : Int32} {s_W_tag : Int32} {s_W_size : Int32} {s_W_lineCount : Int32} {s_W_near : Nat → Int64} {s_p0_findingTimes : Nat → Int32} {s_p0_worlds : Nat → Option Nat} {Q : Int32 → (Int32) → (Nat → Int32) → Prop} (X : vX E cX6_far 5 RX6 wsX6_far (vT T) (vr 2 50)) (r : r_X6_far E T o_p0 a_p0 o_S o_W a_W s_p0_sentSize s_p0_latestTries s_p0_latestAsked s_W_there s_W_kind s_W_tag s_W_size s_W_lineCount s_W_near s_p0_worlds Q) (h : w_X6_far_49 s_p0_latestFinding s_W_there s_W_size s_W_near s_p0_findingTimes s_p0_worlds o_W Q) : V E 0 0 49 [(0, .ref o_p0)] [] (cl_X6_far T o_p0 a_p0 o_S o_W a_W s_p0_sentSize s_p0_latestFinding s_p0_latestTries s_p0_latestAsked s_W_there s_W_kind s_W_tag s_W_size s_W_lineCount s_W_near s_p0_findingTimes s_p0_worlds) := by
  unfold w_X6_far_49 at h
  refine v_aload_n X 0 dX6_far_49 rfl rfl ?_
  refine v_iconst X dX6_far_50 (v := (2 : Int32)) (by decide) ?_
  refine v_callVi X (As := [.int (2 : Int32)]) (rest := []) 1 0 (c_X6_refused (l := vl E) (D := vD E) (T := T) (o_p0 := o_p0) (a_p0 := a_p0) (o_S := o_S) (s_p0_sentSize := s_p0_sentSize) (s_p0_latestFinding := s_p0_latestFinding) (s_p0_latestTries := s_p0_latestTries) (s_p0_latestAsked := s_p0_latestAsked) (s_p0_findingTimes := s_p0_findingTimes) (x_1 := (2 : Int32)) h) gX6_far_X6_refused rfl rfl (by decide +kernel) ⟨Nat.zero_le _, Nat.zero_le _⟩ ⟨rfl, rfl, by decide, by decide⟩ (Nat.le_of_ble_eq_true rfl) rfl rfl (wr := [vO o_W 2 [.ref (a_W 0), .ref (a_W 1), .ref (a_W 2), .int s_W_there, .int s_W_kind, .int s_W_tag, .int s_W_size, .int s_W_lineCount], vJ T (a_W 2) 45 s_W_near, vR T 2 (a_p0 0) 6 s_p0_worlds]) [0, 3] [1, 2, 4] rfl rfl rfl rfl (by decide) rfl dX6_far_51 (fun r_51 u h => ?_)
  obtain ⟨u_51_0, u_51_1⟩ := u
  dsimp only at h
  refine v_ws (ws' := (cl_X6_far T o_p0 a_p0 o_S o_W a_W s_p0_sentSize u_51_0 s_p0_latestTries s_p0_latestAsked s_W_there s_W_kind s_W_tag s_W_size s_W_lineCount s_W_near u_51_1 s_p0_worlds)) [3, 0, 1, 4, 2] rfl rfl ?_
  exact r _ _ _ (u_51_0, u_51_1) _ dX6_far_54 h rfl
set_option maxHeartbeats 4000000 in
set_option maxRecDepth 100000 in
theorem c_X6_far {l : Launch} {D : va_G} {T : Nat → ClassId} {o_p0 : Nat} {a_p0 : Nat → Nat} {o_S : Nat} {o_W : Nat} {a_W : Nat → Nat} {s_p0_sentSize : Int32} {s_p0_latestFinding : Int32} {s_p0_latestTries : Int32} {s_p0_latestAsked : Int64} {s_W_there : Int32} {s_W_kind : Int32} {s_W_tag : Int32} {s_W_size : Int32} {s_W_lineCount : Int32} {s_W_near : Nat → Int64} {s_p0_findingTimes : Nat → Int32} {s_p0_worlds : Nat → Option Nat} {x_1 : Int32} {x_2 : Int32} {x_3 : Int32} {Q : Int32 → (Int32) → (Nat → Int32) → Prop} (h : w_X6_far x_1 x_2 x_3 s_p0_latestFinding s_W_there s_W_size s_W_near s_p0_findingTimes s_p0_worlds o_W Q) : vCi l D (vT T) yX6_far wsX6_far (vr 2 50) [.ref o_p0, .int x_1, .int x_2, .int x_3] (cl_X6_far T o_p0 a_p0 o_S o_W a_W s_p0_sentSize s_p0_latestFinding s_p0_latestTries s_p0_latestAsked s_W_there s_W_kind s_W_tag s_W_size s_W_lineCount s_W_near s_p0_findingTimes s_p0_worlds) (fun v (u : (Int32) × (Nat → Int32)) => Q v u.1 u.2) (fun (u : (Int32) × (Nat → Int32)) => (cl_X6_far T o_p0 a_p0 o_S o_W a_W s_p0_sentSize u.1 s_p0_latestTries s_p0_latestAsked s_W_there s_W_kind s_W_tag s_W_size s_W_lineCount s_W_near u.2 s_p0_worlds)) := by
  refine vC_i (cc := cX6_far) (nL := 5) (by decide +kernel) rfl ⟨rfl, rfl⟩ (Nat.le_of_ble_eq_true rfl) rfl ?_
  intro E el eD X r
  unfold w_X6_far at h
  refine v_iload_n X 1 dX6_far_0 rfl rfl ?_
  refine v_callSi0 X (As := [.int x_1]) (rest := []) 1 (c_X6_isWorldNumber (l := vl E) (D := vD E) (T := T) (x_0 := x_1) h) gX6_far_X6_isWorldNumber rfl rfl (by decide +kernel) ⟨Nat.zero_le _, Nat.zero_le _⟩ ⟨rfl, rfl, by decide, by decide⟩ (Nat.le_of_ble_eq_true rfl) rfl dX6_far_1 (fun r_1 h => ?_)
  refine v_if_ne X (tgt := 9) dX6_far_4 (by decide) (fun c_4 => ?_) (fun c_4 => ?_)
  · replace h := h.1 c_4
    refine v_aload_n X 0 dX6_far_9 rfl rfl ?_
    refine v_get X 0 0 (F := TX6) (N := 13) iX6_far_X6 rfl rfl (by decide) (List.mem_of_getElem? (i := 1) rfl) rfl rfl dX6_far_10 ?_
    refine v_iload_n X 1 dX6_far_13 rfl rfl ?_
    refine v_aald X 4 2 rfl rfl h.1 h.2.1 dX6_far_14 ?_
    replace h := h.2.2
    refine v_astore X (lv' := [(4, .ref o_W), (0, .ref o_p0), (1, .int x_1), (2, .int x_2), (3, .int x_3)]) dX6_far_15 (by decide) rfl ?_
    refine v_aload X 0 dX6_far_17 rfl ?_
    refine v_getN X 1 3 (F := TX5) (N := 8) iX6_far_X5 rfl rfl (by decide) (List.mem_of_getElem? (i := 23) rfl) rfl rfl dX6_far_19 ?_
    refine v_if_ne X (tgt := 31) dX6_far_22 (by decide) (fun c_22 => ?_) (fun c_22 => ?_)
    · replace h := h.1 c_22
      refine v_aload X 0 dX6_far_31 rfl ?_
      refine v_iload_n X 3 dX6_far_33 rfl rfl ?_
      refine v_callVi X (As := [.int x_2]) (rest := []) 1 0 (c_X5_hasPoint (l := vl E) (D := vD E) (T := T) (o_p0 := o_W) (a_p0 := a_W) (s_p0_there := s_W_there) (s_p0_kind := s_W_kind) (s_p0_tag := s_W_tag) (s_p0_size := s_W_size) (s_p0_lineCount := s_W_lineCount) (x_1 := x_2) h) gX6_far_X5_hasPoint rfl rfl (by decide +kernel) ⟨Nat.zero_le _, Nat.zero_le _⟩ ⟨rfl, rfl, by decide, by decide⟩ (Nat.le_of_ble_eq_true rfl) rfl rfl (wr := [vO o_p0 3 [.ref (a_p0 0), .ref (a_p0 1), .ref (a_p0 2), .ref (a_p0 3), .ref (a_p0 4), .ref (a_p0 5), .ref (a_p0 6), .ref (a_p0 7), .ref o_S, .int s_p0_sentSize, .int s_p0_latestFinding, .int s_p0_latestTries, .long s_p0_latestAsked], vJ T (a_W 2) 45 s_W_near, vI T (a_p0 3) 6 s_p0_findingTimes, vR T 2 (a_p0 0) 6 s_p0_worlds]) [1] [0, 2, 3, 4] rfl rfl rfl rfl (by decide) rfl dX6_far_34 (fun r_34 u h => ?_)
      refine v_ws (ws' := (cl_X6_far T o_p0 a_p0 o_S o_W a_W s_p0_sentSize s_p0_latestFinding s_p0_latestTries s_p0_latestAsked s_W_there s_W_kind s_W_tag s_W_size s_W_lineCount s_W_near s_p0_findingTimes s_p0_worlds)) [0, 4, 1, 2, 3] rfl rfl ?_
      refine v_if_eq X (tgt := 49) dX6_far_37 (by decide) (fun c_37 => ?_) (fun c_37 => ?_)
      · replace h := h.1 c_37
        refine v_lv (lv' := [(0, .ref o_p0)]) [1] rfl ?_
        exact k_X6_far_49 X r h
      · replace h := h.2 c_37
        refine v_aload X 0 dX6_far_40 rfl ?_
        refine v_iload_n X 4 dX6_far_42 rfl rfl ?_
        refine v_callVi X (As := [.int x_3]) (rest := []) 1 0 (c_X5_hasPoint (l := vl E) (D := vD E) (T := T) (o_p0 := o_W) (a_p0 := a_W) (s_p0_there := s_W_there) (s_p0_kind := s_W_kind) (s_p0_tag := s_W_tag) (s_p0_size := s_W_size) (s_p0_lineCount := s_W_lineCount) (x_1 := x_3) h) gX6_far_X5_hasPoint rfl rfl (by decide +kernel) ⟨Nat.zero_le _, Nat.zero_le _⟩ ⟨rfl, rfl, by decide, by decide⟩ (Nat.le_of_ble_eq_true rfl) rfl rfl (wr := [vO o_p0 3 [.ref (a_p0 0), .ref (a_p0 1), .ref (a_p0 2), .ref (a_p0 3), .ref (a_p0 4), .ref (a_p0 5), .ref (a_p0 6), .ref (a_p0 7), .ref o_S, .int s_p0_sentSize, .int s_p0_latestFinding, .int s_p0_latestTries, .long s_p0_latestAsked], vJ T (a_W 2) 45 s_W_near, vI T (a_p0 3) 6 s_p0_findingTimes, vR T 2 (a_p0 0) 6 s_p0_worlds]) [1] [0, 2, 3, 4] rfl rfl rfl rfl (by decide) rfl dX6_far_43 (fun r_43 u h => ?_)
        refine v_ws (ws' := (cl_X6_far T o_p0 a_p0 o_S o_W a_W s_p0_sentSize s_p0_latestFinding s_p0_latestTries s_p0_latestAsked s_W_there s_W_kind s_W_tag s_W_size s_W_lineCount s_W_near s_p0_findingTimes s_p0_worlds)) [0, 4, 1, 2, 3] rfl rfl ?_
        refine v_if_ne X (tgt := 55) dX6_far_46 (by decide) (fun c_46 => ?_) (fun c_46 => ?_)
        · replace h := h.1 c_46
          refine v_aload X 0 dX6_far_55 rfl ?_
          refine v_iload_n X 3 dX6_far_57 rfl rfl ?_
          refine v_iload_n X 4 dX6_far_58 rfl rfl ?_
          refine v_callVi X (As := [.int x_2, .int x_3]) (rest := []) 2 0 (c_X5_stepsBetween (l := vl E) (D := vD E) (T := T) (o_p0 := o_W) (a_p0 := a_W) (s_p0_there := s_W_there) (s_p0_kind := s_W_kind) (s_p0_tag := s_W_tag) (s_p0_size := s_W_size) (s_p0_lineCount := s_W_lineCount) (s_p0_near := s_W_near) (x_1 := x_2) (x_2 := x_3) h) gX6_far_X5_stepsBetween rfl rfl (by decide +kernel) ⟨Nat.zero_le _, Nat.zero_le _⟩ ⟨rfl, rfl, by decide, by decide⟩ (Nat.le_of_ble_eq_true rfl) rfl rfl (wr := [vO o_p0 3 [.ref (a_p0 0), .ref (a_p0 1), .ref (a_p0 2), .ref (a_p0 3), .ref (a_p0 4), .ref (a_p0 5), .ref (a_p0 6), .ref (a_p0 7), .ref o_S, .int s_p0_sentSize, .int s_p0_latestFinding, .int s_p0_latestTries, .long s_p0_latestAsked], vI T (a_p0 3) 6 s_p0_findingTimes, vR T 2 (a_p0 0) 6 s_p0_worlds]) [1, 2] [0, 3, 4] rfl rfl rfl rfl (by decide) rfl dX6_far_59 (fun r_59 u h => ?_)
          refine v_ws (ws' := (cl_X6_far T o_p0 a_p0 o_S o_W a_W s_p0_sentSize s_p0_latestFinding s_p0_latestTries s_p0_latestAsked s_W_there s_W_kind s_W_tag s_W_size s_W_lineCount s_W_near s_p0_findingTimes s_p0_worlds)) [0, 3, 4, 1, 2] rfl rfl ?_
          exact r _ _ _ (s_p0_latestFinding, s_p0_findingTimes) _ dX6_far_62 h rfl
        · replace h := h.2 c_46
          refine v_lv (lv' := [(0, .ref o_p0)]) [1] rfl ?_
          exact k_X6_far_49 X r h
    · replace h := h.2 c_22
      refine v_aload_n X 1 dX6_far_25 rfl rfl ?_
      refine v_iconst X dX6_far_26 (v := (1 : Int32)) (by decide) ?_
      refine v_callVi X (As := [.int (1 : Int32)]) (rest := []) 1 0 (c_X6_refused (l := vl E) (D := vD E) (T := T) (o_p0 := o_p0) (a_p0 := a_p0) (o_S := o_S) (s_p0_sentSize := s_p0_sentSize) (s_p0_latestFinding := s_p0_latestFinding) (s_p0_latestTries := s_p0_latestTries) (s_p0_latestAsked := s_p0_latestAsked) (s_p0_findingTimes := s_p0_findingTimes) (x_1 := (1 : Int32)) h) gX6_far_X6_refused rfl rfl (by decide +kernel) ⟨Nat.zero_le _, Nat.zero_le _⟩ ⟨rfl, rfl, by decide, by decide⟩ (Nat.le_of_ble_eq_true rfl) rfl rfl (wr := [vO o_W 2 [.ref (a_W 0), .ref (a_W 1), .ref (a_W 2), .int s_W_there, .int s_W_kind, .int s_W_tag, .int s_W_size, .int s_W_lineCount], vJ T (a_W 2) 45 s_W_near, vR T 2 (a_p0 0) 6 s_p0_worlds]) [0, 3] [1, 2, 4] rfl rfl rfl rfl (by decide) rfl dX6_far_27 (fun r_27 u h => ?_)
      obtain ⟨u_27_0, u_27_1⟩ := u
      dsimp only at h
      refine v_ws (ws' := (cl_X6_far T o_p0 a_p0 o_S o_W a_W s_p0_sentSize u_27_0 s_p0_latestTries s_p0_latestAsked s_W_there s_W_kind s_W_tag s_W_size s_W_lineCount s_W_near u_27_1 s_p0_worlds)) [3, 0, 1, 4, 2] rfl rfl ?_
      exact r _ _ _ (u_27_0, u_27_1) _ dX6_far_30 h rfl
  · replace h := h.2 c_4
    refine v_iconst X dX6_far_7 (v := (-1 : Int32)) (by decide) ?_
    exact r _ _ _ (s_p0_latestFinding, s_p0_findingTimes) _ dX6_far_8 h rfl
-- X6_row
abbrev cl_X6_row (T : Nat → ClassId) (o_p0 : Nat) (a_p0 : Nat → Nat) (o_S : Nat) (o_P : Nat) (s_p0_sentSize : Int32) (s_p0_latestFinding : Int32) (s_p0_latestTries : Int32) (s_p0_latestAsked : Int64) (s_P : Nat → Int32) (s_p0_findingTimes : Nat → Int32) (s_p0_rowPlaces : Nat → Option Nat) (s_p0_rowSizes : Nat → Int32) : va_W := [vO o_p0 3 [.ref (a_p0 0), .ref (a_p0 1), .ref (a_p0 2), .ref (a_p0 3), .ref (a_p0 4), .ref (a_p0 5), .ref (a_p0 6), .ref (a_p0 7), .ref o_S, .int s_p0_sentSize, .int s_p0_latestFinding, .int s_p0_latestTries, .long s_p0_latestAsked], vI T o_P 12 s_P, vI T (a_p0 3) 6 s_p0_findingTimes, vR T 3 (a_p0 1) 4 s_p0_rowPlaces, vI T (a_p0 2) 4 s_p0_rowSizes]
abbrev r_X6_row (E : vE) (T : Nat → ClassId) (o_p0 : Nat) (a_p0 : Nat → Nat) (o_S : Nat) (o_P : Nat) (s_p0_sentSize : Int32) (s_p0_latestTries : Int32) (s_p0_latestAsked : Int64) (s_p0_rowPlaces : Nat → Option Nat) (Q : Int32 → (Int32) → (Nat → Int32) → (Nat → Int32) → (Nat → Int32) → Prop) : Prop := vRi E cX6_row (fun v (u : (Int32) × (Nat → Int32) × (Nat → Int32) × (Nat → Int32)) => Q v u.1 u.2.1 u.2.2.1 u.2.2.2) (fun (u : (Int32) × (Nat → Int32) × (Nat → Int32) × (Nat → Int32)) => (cl_X6_row T o_p0 a_p0 o_S o_P s_p0_sentSize u.1 s_p0_latestTries s_p0_latestAsked u.2.1 u.2.2.1 s_p0_rowPlaces u.2.2.2))
def w_X6_row_27s (x_1 : Int32) (x_2 : Int32) (s_p0_latestFinding : Int32) (s_p0_findingTimes : Nat → Int32) (s_p0_rowPlaces : Nat → Option Nat) (s_p0_rowSizes : Nat → Int32) (o_P : Nat) (Q : Int32 → (Int32) → (Nat → Int32) → (Nat → Int32) → (Nat → Int32) → Prop) (K_27 : (Int32) → (Nat → Int32) → Prop) (x_3 : Int32) (s_P : Nat → Int32) : Prop := ((x_2 ≤ x_3 → (vp_in x_1 4 ∧ (Q x_2 s_p0_latestFinding s_P s_p0_findingTimes (upd s_p0_rowSizes (x_1).toNatClampNeg x_2)))) ∧ (¬ x_2 ≤ x_3 → (vp_in x_1 4 ∧ s_p0_rowPlaces (x_1).toNatClampNeg = some o_P ∧ (vp_in x_3 12 ∧ (K_27 (x_3 + (1 : Int32)) (upd s_P (x_3).toNatClampNeg (0 : Int32)))))))
def w_X6_row_27 (x_1 : Int32) (x_2 : Int32) (s_p0_latestFinding : Int32) (s_p0_findingTimes : Nat → Int32) (s_p0_rowPlaces : Nat → Option Nat) (s_p0_rowSizes : Nat → Int32) (o_P : Nat) (Q : Int32 → (Int32) → (Nat → Int32) → (Nat → Int32) → (Nat → Int32) → Prop) : Nat → (Int32) → (Nat → Int32) → Prop
  | 0 => fun _ _ => False
  | n_ + 1 => w_X6_row_27s x_1 x_2 s_p0_latestFinding s_p0_findingTimes s_p0_rowPlaces s_p0_rowSizes o_P Q (w_X6_row_27 x_1 x_2 s_p0_latestFinding s_p0_findingTimes s_p0_rowPlaces s_p0_rowSizes o_P Q n_)
def w_X6_row_13 (s_p0_latestFinding : Int32) (s_P : Nat → Int32) (s_p0_findingTimes : Nat → Int32) (s_p0_rowPlaces : Nat → Option Nat) (s_p0_rowSizes : Nat → Int32) (o_P : Nat) (Q : Int32 → (Int32) → (Nat → Int32) → (Nat → Int32) → (Nat → Int32) → Prop) : Prop := (Q (-1 : Int32) s_p0_latestFinding s_P s_p0_findingTimes s_p0_rowSizes)
def w_X6_row (x_1 : Int32) (x_2 : Int32) (s_p0_latestFinding : Int32) (s_P : Nat → Int32) (s_p0_findingTimes : Nat → Int32) (s_p0_rowPlaces : Nat → Option Nat) (s_p0_rowSizes : Nat → Int32) (o_P : Nat) (Q : Int32 → (Int32) → (Nat → Int32) → (Nat → Int32) → (Nat → Int32) → Prop) : Prop := (w_X6_isRowNumber x_1 (fun (r_1 : Int32) => ((r_1 = 0 → (w_X6_row_13 s_p0_latestFinding s_P s_p0_findingTimes s_p0_rowPlaces s_p0_rowSizes o_P Q)) ∧ (¬ r_1 = 0 → ((x_2 ≤ (12 : Int32) → ((0 ≤ x_2 → (∃ n_, w_X6_row_27 x_1 x_2 s_p0_latestFinding s_p0_findingTimes s_p0_rowPlaces s_p0_rowSizes o_P Q n_ (0 : Int32) s_P)) ∧ (¬ 0 ≤ x_2 → (w_X6_refused (5 : Int32) s_p0_latestFinding s_p0_findingTimes (fun (r_21 : Int32) (u_21_0 : Int32) (u_21_1 : Nat → Int32) => (Q r_21 u_21_0 s_P u_21_1 s_p0_rowSizes)))))) ∧ (¬ x_2 ≤ (12 : Int32) → (w_X6_row_13 s_p0_latestFinding s_P s_p0_findingTimes s_p0_rowPlaces s_p0_rowSizes o_P Q)))))))
-- X6_row
theorem iX6_row_X6 : ∀ w ∈ wsX60, w ∈ wsX6_row := by decide +kernel
set_option maxHeartbeats 4000000 in
set_option maxRecDepth 100000 in
theorem k_X6_row_27 {E : vE} {T : Nat → ClassId} {o_p0 : Nat} {a_p0 : Nat → Nat} {o_S : Nat} {o_P : Nat} {s_p0_sentSize : Int32} {s_p0_latestFinding : Int32} {s_p0_latestTries : Int32} {s_p0_latestAsked : Int64} {s_p0_findingTimes : Nat → Int32} {s_p0_rowPlaces : Nat → Option Nat} {s_p0_rowSizes : Nat → Int32} {x_1 : Int32} {x_2 : Int32} {Q : Int32 → (Int32) → (Nat → Int32) → (Nat → Int32) → (Nat → Int32) → Prop} (X : vX E cX6_row 4 RX6 wsX6_row (vT T) (vr 1 21)) (r : r_X6_row E T o_p0 a_p0 o_S o_P s_p0_sentSize s_p0_latestTries s_p0_latestAsked s_p0_rowPlaces Q) : ∀ (n_ : Nat) (x_3 : Int32) (s_P : Nat → Int32), w_X6_row_27 x_1 x_2 s_p0_latestFinding s_p0_findingTimes s_p0_rowPlaces s_p0_rowSizes o_P Q n_ x_3 s_P → V E 0 0 27 [(0, .ref o_p0), (1, .int x_1), (2, .int x_2), (3, .int x_3)] [] (cl_X6_row T o_p0 a_p0 o_S o_P s_p0_sentSize s_p0_latestFinding s_p0_latestTries s_p0_latestAsked s_P s_p0_findingTimes s_p0_rowPlaces s_p0_rowSizes) := by
  intro n_
  induction n_ with
  | zero => intro x_3 s_P h; exact h.elim
  | succ n_ hK_27 =>
    intro x_3 s_P h
    replace h : w_X6_row_27s x_1 x_2 s_p0_latestFinding s_p0_findingTimes s_p0_rowPlaces s_p0_rowSizes o_P Q (w_X6_row_27 x_1 x_2 s_p0_latestFinding s_p0_findingTimes s_p0_rowPlaces s_p0_rowSizes o_P Q n_) x_3 s_P := h
    unfold w_X6_row_27s at h
    refine v_iload_n X 3 dX6_row_27 rfl rfl ?_
    refine v_iload_n X 2 dX6_row_28 rfl rfl ?_
    refine v_icmp_ge X (tgt := 47) dX6_row_29 (by decide) (fun c_29 => ?_) (fun c_29 => ?_)
    · replace h := h.1 c_29
      refine v_aload_n X 0 dX6_row_47 rfl rfl ?_
      refine v_get X 0 2 (F := TX6) (N := 13) iX6_row_X6 rfl rfl (by decide) (List.mem_of_getElem? (i := 2) rfl) rfl rfl dX6_row_48 ?_
      refine v_iload_n X 1 dX6_row_51 rfl rfl ?_
      refine v_iload_n X 2 dX6_row_52 rfl rfl ?_
      refine v_iast X (ws' := (cl_X6_row T o_p0 a_p0 o_S o_P s_p0_sentSize s_p0_latestFinding s_p0_latestTries s_p0_latestAsked s_P s_p0_findingTimes s_p0_rowPlaces (upd s_p0_rowSizes (x_1).toNatClampNeg x_2))) 4 0 rfl rfl h.1 rfl dX6_row_53 ?_
      replace h := h.2
      refine v_iload_n X 2 dX6_row_54 rfl rfl ?_
      exact r _ _ _ (s_p0_latestFinding, s_P, s_p0_findingTimes, (upd s_p0_rowSizes (x_1).toNatClampNeg x_2)) _ dX6_row_55 h rfl
    · replace h := h.2 c_29
      refine v_aload_n X 0 dX6_row_32 rfl rfl ?_
      refine v_get X 0 1 (F := TX6) (N := 13) iX6_row_X6 rfl rfl (by decide) (List.mem_of_getElem? (i := 1) rfl) rfl rfl dX6_row_33 ?_
      refine v_iload_n X 1 dX6_row_36 rfl rfl ?_
      refine v_aaldA X 3 3 rfl rfl h.1 h.2.1 dX6_row_37 ?_
      replace h := h.2.2
      refine v_iload_n X 3 dX6_row_38 rfl rfl ?_
      refine v_iconst X dX6_row_39 (v := (0 : Int32)) (by decide) ?_
      refine v_iast X (ws' := (cl_X6_row T o_p0 a_p0 o_S o_P s_p0_sentSize s_p0_latestFinding s_p0_latestTries s_p0_latestAsked (upd s_P (x_3).toNatClampNeg (0 : Int32)) s_p0_findingTimes s_p0_rowPlaces s_p0_rowSizes)) 1 0 rfl rfl h.1 rfl dX6_row_40 ?_
      replace h := h.2
      refine v_iinc X (v := (x_3 + (1 : Int32))) (lv' := [(3, .int (x_3 + (1 : Int32))), (0, .ref o_p0), (1, .int x_1), (2, .int x_2)]) 3 dX6_row_41 rfl rfl (by decide) rfl ?_
      refine v_goto X (tgt := 27) dX6_row_44 (by decide) ?_
      refine v_lv (lv' := [(0, .ref o_p0), (1, .int x_1), (2, .int x_2), (3, .int (x_3 + (1 : Int32)))]) [1, 2, 3, 0] rfl ?_
      exact hK_27 _ _ h
set_option maxHeartbeats 4000000 in
set_option maxRecDepth 100000 in
theorem k_X6_row_13 {E : vE} {T : Nat → ClassId} {o_p0 : Nat} {a_p0 : Nat → Nat} {o_S : Nat} {o_P : Nat} {s_p0_sentSize : Int32} {s_p0_latestFinding : Int32} {s_p0_latestTries : Int32} {s_p0_latestAsked : Int64} {s_P : Nat → Int32} {s_p0_findingTimes : Nat → Int32} {s_p0_rowPlaces : Nat → Option Nat} {s_p0_rowSizes : Nat → Int32} {Q : Int32 → (Int32) → (Nat → Int32) → (Nat → Int32) → (Nat → Int32) → Prop} (X : vX E cX6_row 4 RX6 wsX6_row (vT T) (vr 1 21)) (r : r_X6_row E T o_p0 a_p0 o_S o_P s_p0_sentSize s_p0_latestTries s_p0_latestAsked s_p0_rowPlaces Q) (h : w_X6_row_13 s_p0_latestFinding s_P s_p0_findingTimes s_p0_rowPlaces s_p0_rowSizes o_P Q) : V E 0 0 13 [] [] (cl_X6_row T o_p0 a_p0 o_S o_P s_p0_sentSize s_p0_latestFinding s_p0_latestTries s_p0_latestAsked s_P s_p0_findingTimes s_p0_rowPlaces s_p0_rowSizes) := by
  unfold w_X6_row_13 at h
  refine v_iconst X dX6_row_13 (v := (-1 : Int32)) (by decide) ?_
  exact r _ _ _ (s_p0_latestFinding, s_P, s_p0_findingTimes, s_p0_rowSizes) _ dX6_row_14 h rfl
set_option maxHeartbeats 4000000 in
set_option maxRecDepth 100000 in
theorem c_X6_row {l : Launch} {D : va_G} {T : Nat → ClassId} {o_p0 : Nat} {a_p0 : Nat → Nat} {o_S : Nat} {o_P : Nat} {s_p0_sentSize : Int32} {s_p0_latestFinding : Int32} {s_p0_latestTries : Int32} {s_p0_latestAsked : Int64} {s_P : Nat → Int32} {s_p0_findingTimes : Nat → Int32} {s_p0_rowPlaces : Nat → Option Nat} {s_p0_rowSizes : Nat → Int32} {x_1 : Int32} {x_2 : Int32} {Q : Int32 → (Int32) → (Nat → Int32) → (Nat → Int32) → (Nat → Int32) → Prop} (h : w_X6_row x_1 x_2 s_p0_latestFinding s_P s_p0_findingTimes s_p0_rowPlaces s_p0_rowSizes o_P Q) : vCi l D (vT T) yX6_row wsX6_row (vr 1 21) [.ref o_p0, .int x_1, .int x_2] (cl_X6_row T o_p0 a_p0 o_S o_P s_p0_sentSize s_p0_latestFinding s_p0_latestTries s_p0_latestAsked s_P s_p0_findingTimes s_p0_rowPlaces s_p0_rowSizes) (fun v (u : (Int32) × (Nat → Int32) × (Nat → Int32) × (Nat → Int32)) => Q v u.1 u.2.1 u.2.2.1 u.2.2.2) (fun (u : (Int32) × (Nat → Int32) × (Nat → Int32) × (Nat → Int32)) => (cl_X6_row T o_p0 a_p0 o_S o_P s_p0_sentSize u.1 s_p0_latestTries s_p0_latestAsked u.2.1 u.2.2.1 s_p0_rowPlaces u.2.2.2)) := by
  refine vC_i (cc := cX6_row) (nL := 4) (by decide +kernel) rfl ⟨rfl, rfl⟩ (Nat.le_of_ble_eq_true rfl) rfl ?_
  intro E el eD X r
  unfold w_X6_row at h
  refine v_iload_n X 1 dX6_row_0 rfl rfl ?_
  refine v_callSi0 X (As := [.int x_1]) (rest := []) 1 (c_X6_isRowNumber (l := vl E) (D := vD E) (T := T) (x_0 := x_1) h) gX6_row_X6_isRowNumber rfl rfl (by decide +kernel) ⟨Nat.zero_le _, Nat.zero_le _⟩ ⟨rfl, rfl, by decide, by decide⟩ (Nat.le_of_ble_eq_true rfl) rfl dX6_row_1 (fun r_1 h => ?_)
  refine v_if_eq X (tgt := 13) dX6_row_4 (by decide) (fun c_4 => ?_) (fun c_4 => ?_)
  · replace h := h.1 c_4
    refine v_lv (lv' := []) [] rfl ?_
    exact k_X6_row_13 X r h
  · replace h := h.2 c_4
    refine v_iload_n X 2 dX6_row_7 rfl rfl ?_
    refine v_bipush X dX6_row_8 (v := (12 : Int32)) (by decide) ?_
    refine v_icmp_le X (tgt := 15) dX6_row_10 (by decide) (fun c_10 => ?_) (fun c_10 => ?_)
    · replace h := h.1 c_10
      refine v_iload_n X 2 dX6_row_15 rfl rfl ?_
      refine v_if_ge X (tgt := 25) dX6_row_16 (by decide) (fun c_16 => ?_) (fun c_16 => ?_)
      · replace h := h.1 c_16
        refine v_iconst X dX6_row_25 (v := (0 : Int32)) (by decide) ?_
        refine v_istore_n X (lv' := [(3, .int (0 : Int32)), (0, .ref o_p0), (1, .int x_1), (2, .int x_2)]) dX6_row_26 rfl (by decide) rfl ?_
        refine v_lv (lv' := [(0, .ref o_p0), (1, .int x_1), (2, .int x_2), (3, .int (0 : Int32))]) [1, 2, 3, 0] rfl ?_
        obtain ⟨n_, h⟩ := h
        exact k_X6_row_27 X r n_ _ _ h
      · replace h := h.2 c_16
        refine v_aload_n X 0 dX6_row_19 rfl rfl ?_
        refine v_iconst X dX6_row_20 (v := (5 : Int32)) (by decide) ?_
        refine v_callVi X (As := [.int (5 : Int32)]) (rest := []) 1 0 (c_X6_refused (l := vl E) (D := vD E) (T := T) (o_p0 := o_p0) (a_p0 := a_p0) (o_S := o_S) (s_p0_sentSize := s_p0_sentSize) (s_p0_latestFinding := s_p0_latestFinding) (s_p0_latestTries := s_p0_latestTries) (s_p0_latestAsked := s_p0_latestAsked) (s_p0_findingTimes := s_p0_findingTimes) (x_1 := (5 : Int32)) h) gX6_row_X6_refused rfl rfl (by decide +kernel) ⟨Nat.zero_le _, Nat.zero_le _⟩ ⟨rfl, rfl, by decide, by decide⟩ (Nat.le_of_ble_eq_true rfl) rfl rfl (wr := [vI T o_P 12 s_P, vR T 3 (a_p0 1) 4 s_p0_rowPlaces, vI T (a_p0 2) 4 s_p0_rowSizes]) [0, 2] [1, 3, 4] rfl rfl rfl rfl (by decide) rfl dX6_row_21 (fun r_21 u h => ?_)
        obtain ⟨u_21_0, u_21_1⟩ := u
        dsimp only at h
        refine v_ws (ws' := (cl_X6_row T o_p0 a_p0 o_S o_P s_p0_sentSize u_21_0 s_p0_latestTries s_p0_latestAsked s_P u_21_1 s_p0_rowPlaces s_p0_rowSizes)) [3, 0, 4, 1, 2] rfl rfl ?_
        exact r _ _ _ (u_21_0, s_P, u_21_1, s_p0_rowSizes) _ dX6_row_24 h rfl
    · replace h := h.2 c_10
      refine v_lv (lv' := []) [] rfl ?_
      exact k_X6_row_13 X r h
-- X6_lay
abbrev cl_X6_lay (T : Nat → ClassId) (o_p0 : Nat) (a_p0 : Nat → Nat) (o_S : Nat) (o_P : Nat) (s_p0_sentSize : Int32) (s_p0_latestFinding : Int32) (s_p0_latestTries : Int32) (s_p0_latestAsked : Int64) (s_P : Nat → Int32) (s_p0_findingTimes : Nat → Int32) (s_p0_rowPlaces : Nat → Option Nat) (s_p0_rowSizes : Nat → Int32) : va_W := [vO o_p0 3 [.ref (a_p0 0), .ref (a_p0 1), .ref (a_p0 2), .ref (a_p0 3), .ref (a_p0 4), .ref (a_p0 5), .ref (a_p0 6), .ref (a_p0 7), .ref o_S, .int s_p0_sentSize, .int s_p0_latestFinding, .int s_p0_latestTries, .long s_p0_latestAsked], vI T o_P 12 s_P, vI T (a_p0 3) 6 s_p0_findingTimes, vR T 3 (a_p0 1) 4 s_p0_rowPlaces, vI T (a_p0 2) 4 s_p0_rowSizes]
abbrev r_X6_lay (E : vE) (T : Nat → ClassId) (o_p0 : Nat) (a_p0 : Nat → Nat) (o_S : Nat) (o_P : Nat) (s_p0_sentSize : Int32) (s_p0_latestTries : Int32) (s_p0_latestAsked : Int64) (s_p0_rowPlaces : Nat → Option Nat) (s_p0_rowSizes : Nat → Int32) (Q : Int32 → (Int32) → (Nat → Int32) → (Nat → Int32) → Prop) : Prop := vRi E cX6_lay (fun v (u : (Int32) × (Nat → Int32) × (Nat → Int32)) => Q v u.1 u.2.1 u.2.2) (fun (u : (Int32) × (Nat → Int32) × (Nat → Int32)) => (cl_X6_lay T o_p0 a_p0 o_S o_P s_p0_sentSize u.1 s_p0_latestTries s_p0_latestAsked u.2.1 u.2.2 s_p0_rowPlaces s_p0_rowSizes))
def w_X6_lay_38 (s_p0_latestFinding : Int32) (s_P : Nat → Int32) (s_p0_findingTimes : Nat → Int32) (s_p0_rowPlaces : Nat → Option Nat) (s_p0_rowSizes : Nat → Int32) (o_P : Nat) (Q : Int32 → (Int32) → (Nat → Int32) → (Nat → Int32) → Prop) : Prop := (w_X6_refused (2 : Int32) s_p0_latestFinding s_p0_findingTimes (fun (r_40 : Int32) (u_40_0 : Int32) (u_40_1 : Nat → Int32) => (Q r_40 u_40_0 s_P u_40_1)))
def w_X6_lay (x_1 : Int32) (x_2 : Int32) (x_3 : Int32) (s_p0_latestFinding : Int32) (s_P : Nat → Int32) (s_p0_findingTimes : Nat → Int32) (s_p0_rowPlaces : Nat → Option Nat) (s_p0_rowSizes : Nat → Int32) (o_P : Nat) (Q : Int32 → (Int32) → (Nat → Int32) → (Nat → Int32) → Prop) : Prop := (w_X6_isRowNumber x_1 (fun (r_1 : Int32) => ((¬ r_1 = 0 → (vp_in x_1 4 ∧ ((0 ≤ (s_p0_rowSizes (x_1).toNatClampNeg) → ((x_2 < 0 → (w_X6_lay_38 s_p0_latestFinding s_P s_p0_findingTimes s_p0_rowPlaces s_p0_rowSizes o_P Q)) ∧ (¬ x_2 < 0 → (vp_in x_1 4 ∧ ((x_2 < (s_p0_rowSizes (x_1).toNatClampNeg) → (vp_in x_1 4 ∧ s_p0_rowPlaces (x_1).toNatClampNeg = some o_P ∧ (vp_in x_2 12 ∧ (vp_in x_1 4 ∧ s_p0_rowPlaces (x_1).toNatClampNeg = some o_P ∧ (vp_in x_2 12 ∧ (Q ((s_P (x_2).toNatClampNeg) + (1000 : Int32)) s_p0_latestFinding (upd s_P (x_2).toNatClampNeg x_3) s_p0_findingTimes)))))) ∧ (¬ x_2 < (s_p0_rowSizes (x_1).toNatClampNeg) → (w_X6_lay_38 s_p0_latestFinding s_P s_p0_findingTimes s_p0_rowPlaces s_p0_rowSizes o_P Q))))))) ∧ (¬ 0 ≤ (s_p0_rowSizes (x_1).toNatClampNeg) → (w_X6_refused (1 : Int32) s_p0_latestFinding s_p0_findingTimes (fun (r_20 : Int32) (u_20_0 : Int32) (u_20_1 : Nat → Int32) => (Q r_20 u_20_0 s_P u_20_1))))))) ∧ (r_1 = 0 → (Q (-1 : Int32) s_p0_latestFinding s_P s_p0_findingTimes)))))
-- X6_lay
theorem iX6_lay_X6 : ∀ w ∈ wsX60, w ∈ wsX6_lay := by decide +kernel
set_option maxHeartbeats 4000000 in
set_option maxRecDepth 100000 in
theorem k_X6_lay_38 {E : vE} {T : Nat → ClassId} {o_p0 : Nat} {a_p0 : Nat → Nat} {o_S : Nat} {o_P : Nat} {s_p0_sentSize : Int32} {s_p0_latestFinding : Int32} {s_p0_latestTries : Int32} {s_p0_latestAsked : Int64} {s_P : Nat → Int32} {s_p0_findingTimes : Nat → Int32} {s_p0_rowPlaces : Nat → Option Nat} {s_p0_rowSizes : Nat → Int32} {Q : Int32 → (Int32) → (Nat → Int32) → (Nat → Int32) → Prop} (X : vX E cX6_lay 5 RX6 wsX6_lay (vT T) (vr 1 21)) (r : r_X6_lay E T o_p0 a_p0 o_S o_P s_p0_sentSize s_p0_latestTries s_p0_latestAsked s_p0_rowPlaces s_p0_rowSizes Q) (h : w_X6_lay_38 s_p0_latestFinding s_P s_p0_findingTimes s_p0_rowPlaces s_p0_rowSizes o_P Q) : V E 0 0 38 [(0, .ref o_p0)] [] (cl_X6_lay T o_p0 a_p0 o_S o_P s_p0_sentSize s_p0_latestFinding s_p0_latestTries s_p0_latestAsked s_P s_p0_findingTimes s_p0_rowPlaces s_p0_rowSizes) := by
  unfold w_X6_lay_38 at h
  refine v_aload_n X 0 dX6_lay_38 rfl rfl ?_
  refine v_iconst X dX6_lay_39 (v := (2 : Int32)) (by decide) ?_
  refine v_callVi X (As := [.int (2 : Int32)]) (rest := []) 1 0 (c_X6_refused (l := vl E) (D := vD E) (T := T) (o_p0 := o_p0) (a_p0 := a_p0) (o_S := o_S) (s_p0_sentSize := s_p0_sentSize) (s_p0_latestFinding := s_p0_latestFinding) (s_p0_latestTries := s_p0_latestTries) (s_p0_latestAsked := s_p0_latestAsked) (s_p0_findingTimes := s_p0_findingTimes) (x_1 := (2 : Int32)) h) gX6_lay_X6_refused rfl rfl (by decide +kernel) ⟨Nat.zero_le _, Nat.zero_le _⟩ ⟨rfl, rfl, by decide, by decide⟩ (Nat.le_of_ble_eq_true rfl) rfl rfl (wr := [vI T o_P 12 s_P, vR T 3 (a_p0 1) 4 s_p0_rowPlaces, vI T (a_p0 2) 4 s_p0_rowSizes]) [0, 2] [1, 3, 4] rfl rfl rfl rfl (by decide) rfl dX6_lay_40 (fun r_40 u h => ?_)
  obtain ⟨u_40_0, u_40_1⟩ := u
  dsimp only at h
  refine v_ws (ws' := (cl_X6_lay T o_p0 a_p0 o_S o_P s_p0_sentSize u_40_0 s_p0_latestTries s_p0_latestAsked s_P u_40_1 s_p0_rowPlaces s_p0_rowSizes)) [3, 0, 4, 1, 2] rfl rfl ?_
  exact r _ _ _ (u_40_0, s_P, u_40_1) _ dX6_lay_43 h rfl
set_option maxHeartbeats 4000000 in
set_option maxRecDepth 100000 in
theorem c_X6_lay {l : Launch} {D : va_G} {T : Nat → ClassId} {o_p0 : Nat} {a_p0 : Nat → Nat} {o_S : Nat} {o_P : Nat} {s_p0_sentSize : Int32} {s_p0_latestFinding : Int32} {s_p0_latestTries : Int32} {s_p0_latestAsked : Int64} {s_P : Nat → Int32} {s_p0_findingTimes : Nat → Int32} {s_p0_rowPlaces : Nat → Option Nat} {s_p0_rowSizes : Nat → Int32} {x_1 : Int32} {x_2 : Int32} {x_3 : Int32} {Q : Int32 → (Int32) → (Nat → Int32) → (Nat → Int32) → Prop} (h : w_X6_lay x_1 x_2 x_3 s_p0_latestFinding s_P s_p0_findingTimes s_p0_rowPlaces s_p0_rowSizes o_P Q) : vCi l D (vT T) yX6_lay wsX6_lay (vr 1 21) [.ref o_p0, .int x_1, .int x_2, .int x_3] (cl_X6_lay T o_p0 a_p0 o_S o_P s_p0_sentSize s_p0_latestFinding s_p0_latestTries s_p0_latestAsked s_P s_p0_findingTimes s_p0_rowPlaces s_p0_rowSizes) (fun v (u : (Int32) × (Nat → Int32) × (Nat → Int32)) => Q v u.1 u.2.1 u.2.2) (fun (u : (Int32) × (Nat → Int32) × (Nat → Int32)) => (cl_X6_lay T o_p0 a_p0 o_S o_P s_p0_sentSize u.1 s_p0_latestTries s_p0_latestAsked u.2.1 u.2.2 s_p0_rowPlaces s_p0_rowSizes)) := by
  refine vC_i (cc := cX6_lay) (nL := 5) (by decide +kernel) rfl ⟨rfl, rfl⟩ (Nat.le_of_ble_eq_true rfl) rfl ?_
  intro E el eD X r
  unfold w_X6_lay at h
  refine v_iload_n X 1 dX6_lay_0 rfl rfl ?_
  refine v_callSi0 X (As := [.int x_1]) (rest := []) 1 (c_X6_isRowNumber (l := vl E) (D := vD E) (T := T) (x_0 := x_1) h) gX6_lay_X6_isRowNumber rfl rfl (by decide +kernel) ⟨Nat.zero_le _, Nat.zero_le _⟩ ⟨rfl, rfl, by decide, by decide⟩ (Nat.le_of_ble_eq_true rfl) rfl dX6_lay_1 (fun r_1 h => ?_)
  refine v_if_ne X (tgt := 9) dX6_lay_4 (by decide) (fun c_4 => ?_) (fun c_4 => ?_)
  · replace h := h.1 c_4
    refine v_aload_n X 0 dX6_lay_9 rfl rfl ?_
    refine v_get X 0 2 (F := TX6) (N := 13) iX6_lay_X6 rfl rfl (by decide) (List.mem_of_getElem? (i := 1) rfl) rfl rfl dX6_lay_10 ?_
    refine v_iload_n X 1 dX6_lay_13 rfl rfl ?_
    refine v_iald X 4 0 rfl rfl h.1 dX6_lay_14 ?_
    replace h := h.2
    refine v_if_ge X (tgt := 24) dX6_lay_15 (by decide) (fun c_15 => ?_) (fun c_15 => ?_)
    · replace h := h.1 c_15
      refine v_iload_n X 2 dX6_lay_24 rfl rfl ?_
      refine v_if_lt X (tgt := 38) dX6_lay_25 (by decide) (fun c_25 => ?_) (fun c_25 => ?_)
      · replace h := h.1 c_25
        refine v_lv (lv' := [(0, .ref o_p0)]) [0] rfl ?_
        exact k_X6_lay_38 X r h
      · replace h := h.2 c_25
        refine v_iload_n X 2 dX6_lay_28 rfl rfl ?_
        refine v_aload_n X 0 dX6_lay_29 rfl rfl ?_
        refine v_get X 0 2 (F := TX6) (N := 13) iX6_lay_X6 rfl rfl (by decide) (List.mem_of_getElem? (i := 1) rfl) rfl rfl dX6_lay_30 ?_
        refine v_iload_n X 1 dX6_lay_33 rfl rfl ?_
        refine v_iald X 4 0 rfl rfl h.1 dX6_lay_34 ?_
        replace h := h.2
        refine v_icmp_lt X (tgt := 44) dX6_lay_35 (by decide) (fun c_35 => ?_) (fun c_35 => ?_)
        · replace h := h.1 c_35
          refine v_aload_n X 0 dX6_lay_44 rfl rfl ?_
          refine v_get X 0 1 (F := TX6) (N := 13) iX6_lay_X6 rfl rfl (by decide) (List.mem_of_getElem? (i := 2) rfl) rfl rfl dX6_lay_45 ?_
          refine v_iload_n X 1 dX6_lay_48 rfl rfl ?_
          refine v_aaldA X 3 3 rfl rfl h.1 h.2.1 dX6_lay_49 ?_
          replace h := h.2.2
          refine v_iload_n X 2 dX6_lay_50 rfl rfl ?_
          refine v_iald X 1 0 rfl rfl h.1 dX6_lay_51 ?_
          replace h := h.2
          refine v_istore X (lv' := [(4, .int (s_P (x_2).toNatClampNeg)), (0, .ref o_p0), (1, .int x_1), (2, .int x_2), (3, .int x_3)]) dX6_lay_52 (by decide) rfl ?_
          refine v_aload_n X 1 dX6_lay_54 rfl rfl ?_
          refine v_get X 0 1 (F := TX6) (N := 13) iX6_lay_X6 rfl rfl (by decide) (List.mem_of_getElem? (i := 2) rfl) rfl rfl dX6_lay_55 ?_
          refine v_iload_n X 2 dX6_lay_58 rfl rfl ?_
          refine v_aaldA X 3 3 rfl rfl h.1 h.2.1 dX6_lay_59 ?_
          replace h := h.2.2
          refine v_iload_n X 3 dX6_lay_60 rfl rfl ?_
          refine v_iload_n X 4 dX6_lay_61 rfl rfl ?_
          refine v_iast X (ws' := (cl_X6_lay T o_p0 a_p0 o_S o_P s_p0_sentSize s_p0_latestFinding s_p0_latestTries s_p0_latestAsked (upd s_P (x_2).toNatClampNeg x_3) s_p0_findingTimes s_p0_rowPlaces s_p0_rowSizes)) 1 0 rfl rfl h.1 rfl dX6_lay_62 ?_
          replace h := h.2
          refine v_iload X 0 dX6_lay_63 rfl ?_
          refine v_sipush X dX6_lay_65 (v := (1000 : Int32)) (by decide) ?_
          refine v_iadd X dX6_lay_68 ?_
          exact r _ _ _ (s_p0_latestFinding, (upd s_P (x_2).toNatClampNeg x_3), s_p0_findingTimes) _ dX6_lay_69 h rfl
        · replace h := h.2 c_35
          refine v_lv (lv' := [(0, .ref o_p0)]) [0] rfl ?_
          exact k_X6_lay_38 X r h
    · replace h := h.2 c_15
      refine v_aload_n X 0 dX6_lay_18 rfl rfl ?_
      refine v_iconst X dX6_lay_19 (v := (1 : Int32)) (by decide) ?_
      refine v_callVi X (As := [.int (1 : Int32)]) (rest := []) 1 0 (c_X6_refused (l := vl E) (D := vD E) (T := T) (o_p0 := o_p0) (a_p0 := a_p0) (o_S := o_S) (s_p0_sentSize := s_p0_sentSize) (s_p0_latestFinding := s_p0_latestFinding) (s_p0_latestTries := s_p0_latestTries) (s_p0_latestAsked := s_p0_latestAsked) (s_p0_findingTimes := s_p0_findingTimes) (x_1 := (1 : Int32)) h) gX6_lay_X6_refused rfl rfl (by decide +kernel) ⟨Nat.zero_le _, Nat.zero_le _⟩ ⟨rfl, rfl, by decide, by decide⟩ (Nat.le_of_ble_eq_true rfl) rfl rfl (wr := [vI T o_P 12 s_P, vR T 3 (a_p0 1) 4 s_p0_rowPlaces, vI T (a_p0 2) 4 s_p0_rowSizes]) [0, 2] [1, 3, 4] rfl rfl rfl rfl (by decide) rfl dX6_lay_20 (fun r_20 u h => ?_)
      obtain ⟨u_20_0, u_20_1⟩ := u
      dsimp only at h
      refine v_ws (ws' := (cl_X6_lay T o_p0 a_p0 o_S o_P s_p0_sentSize u_20_0 s_p0_latestTries s_p0_latestAsked s_P u_20_1 s_p0_rowPlaces s_p0_rowSizes)) [3, 0, 4, 1, 2] rfl rfl ?_
      exact r _ _ _ (u_20_0, s_P, u_20_1) _ dX6_lay_23 h rfl
  · replace h := h.2 c_4
    refine v_iconst X dX6_lay_7 (v := (-1 : Int32)) (by decide) ?_
    exact r _ _ _ (s_p0_latestFinding, s_P, s_p0_findingTimes) _ dX6_lay_8 h rfl
-- X6_tear
abbrev cl_X6_tear (T : Nat → ClassId) (o_p0 : Nat) (a_p0 : Nat → Nat) (o_S : Nat) (s_p0_sentSize : Int32) (s_p0_latestFinding : Int32) (s_p0_latestTries : Int32) (s_p0_latestAsked : Int64) (s_p0_findingTimes : Nat → Int32) (s_p0_rowSizes : Nat → Int32) : va_W := [vO o_p0 3 [.ref (a_p0 0), .ref (a_p0 1), .ref (a_p0 2), .ref (a_p0 3), .ref (a_p0 4), .ref (a_p0 5), .ref (a_p0 6), .ref (a_p0 7), .ref o_S, .int s_p0_sentSize, .int s_p0_latestFinding, .int s_p0_latestTries, .long s_p0_latestAsked], vI T (a_p0 3) 6 s_p0_findingTimes, vI T (a_p0 2) 4 s_p0_rowSizes]
abbrev r_X6_tear (E : vE) (T : Nat → ClassId) (o_p0 : Nat) (a_p0 : Nat → Nat) (o_S : Nat) (s_p0_sentSize : Int32) (s_p0_latestTries : Int32) (s_p0_latestAsked : Int64) (Q : Int32 → (Int32) → (Nat → Int32) → (Nat → Int32) → Prop) : Prop := vRi E cX6_tear (fun v (u : (Int32) × (Nat → Int32) × (Nat → Int32)) => Q v u.1 u.2.1 u.2.2) (fun (u : (Int32) × (Nat → Int32) × (Nat → Int32)) => (cl_X6_tear T o_p0 a_p0 o_S s_p0_sentSize u.1 s_p0_latestTries s_p0_latestAsked u.2.1 u.2.2))
def w_X6_tear (x_1 : Int32) (s_p0_latestFinding : Int32) (s_p0_findingTimes : Nat → Int32) (s_p0_rowSizes : Nat → Int32) (Q : Int32 → (Int32) → (Nat → Int32) → (Nat → Int32) → Prop) : Prop := (w_X6_isRowNumber x_1 (fun (r_1 : Int32) => ((¬ r_1 = 0 → (vp_in x_1 4 ∧ ((0 ≤ (s_p0_rowSizes (x_1).toNatClampNeg) → (vp_in x_1 4 ∧ (Q (1 : Int32) s_p0_latestFinding s_p0_findingTimes (upd s_p0_rowSizes (x_1).toNatClampNeg (-1 : Int32))))) ∧ (¬ 0 ≤ (s_p0_rowSizes (x_1).toNatClampNeg) → (w_X6_refused (1 : Int32) s_p0_latestFinding s_p0_findingTimes (fun (r_20 : Int32) (u_20_0 : Int32) (u_20_1 : Nat → Int32) => (Q r_20 u_20_0 u_20_1 s_p0_rowSizes))))))) ∧ (r_1 = 0 → (Q (-1 : Int32) s_p0_latestFinding s_p0_findingTimes s_p0_rowSizes)))))
-- X6_tear
theorem iX6_tear_X6 : ∀ w ∈ wsX60, w ∈ wsX6_tear := by decide +kernel
set_option maxHeartbeats 4000000 in
set_option maxRecDepth 100000 in
theorem c_X6_tear {l : Launch} {D : va_G} {T : Nat → ClassId} {o_p0 : Nat} {a_p0 : Nat → Nat} {o_S : Nat} {s_p0_sentSize : Int32} {s_p0_latestFinding : Int32} {s_p0_latestTries : Int32} {s_p0_latestAsked : Int64} {s_p0_findingTimes : Nat → Int32} {s_p0_rowSizes : Nat → Int32} {x_1 : Int32} {Q : Int32 → (Int32) → (Nat → Int32) → (Nat → Int32) → Prop} (h : w_X6_tear x_1 s_p0_latestFinding s_p0_findingTimes s_p0_rowSizes Q) : vCi l D (vT T) yX6_tear wsX6_tear (vr 1 21) [.ref o_p0, .int x_1] (cl_X6_tear T o_p0 a_p0 o_S s_p0_sentSize s_p0_latestFinding s_p0_latestTries s_p0_latestAsked s_p0_findingTimes s_p0_rowSizes) (fun v (u : (Int32) × (Nat → Int32) × (Nat → Int32)) => Q v u.1 u.2.1 u.2.2) (fun (u : (Int32) × (Nat → Int32) × (Nat → Int32)) => (cl_X6_tear T o_p0 a_p0 o_S s_p0_sentSize u.1 s_p0_latestTries s_p0_latestAsked u.2.1 u.2.2)) := by
  refine vC_i (cc := cX6_tear) (nL := 2) (by decide +kernel) rfl ⟨rfl, rfl⟩ (Nat.le_of_ble_eq_true rfl) rfl ?_
  intro E el eD X r
  unfold w_X6_tear at h
  refine v_iload_n X 1 dX6_tear_0 rfl rfl ?_
  refine v_callSi0 X (As := [.int x_1]) (rest := []) 1 (c_X6_isRowNumber (l := vl E) (D := vD E) (T := T) (x_0 := x_1) h) gX6_tear_X6_isRowNumber rfl rfl (by decide +kernel) ⟨Nat.zero_le _, Nat.zero_le _⟩ ⟨rfl, rfl, by decide, by decide⟩ (Nat.le_of_ble_eq_true rfl) rfl dX6_tear_1 (fun r_1 h => ?_)
  refine v_if_ne X (tgt := 9) dX6_tear_4 (by decide) (fun c_4 => ?_) (fun c_4 => ?_)
  · replace h := h.1 c_4
    refine v_aload_n X 0 dX6_tear_9 rfl rfl ?_
    refine v_get X 0 2 (F := TX6) (N := 13) iX6_tear_X6 rfl rfl (by decide) (List.mem_of_getElem? (i := 1) rfl) rfl rfl dX6_tear_10 ?_
    refine v_iload_n X 1 dX6_tear_13 rfl rfl ?_
    refine v_iald X 2 0 rfl rfl h.1 dX6_tear_14 ?_
    replace h := h.2
    refine v_if_ge X (tgt := 24) dX6_tear_15 (by decide) (fun c_15 => ?_) (fun c_15 => ?_)
    · replace h := h.1 c_15
      refine v_aload_n X 0 dX6_tear_24 rfl rfl ?_
      refine v_get X 0 2 (F := TX6) (N := 13) iX6_tear_X6 rfl rfl (by decide) (List.mem_of_getElem? (i := 1) rfl) rfl rfl dX6_tear_25 ?_
      refine v_iload_n X 1 dX6_tear_28 rfl rfl ?_
      refine v_iconst X dX6_tear_29 (v := (-1 : Int32)) (by decide) ?_
      refine v_iast X (ws' := (cl_X6_tear T o_p0 a_p0 o_S s_p0_sentSize s_p0_latestFinding s_p0_latestTries s_p0_latestAsked s_p0_findingTimes (upd s_p0_rowSizes (x_1).toNatClampNeg (-1 : Int32)))) 2 0 rfl rfl h.1 rfl dX6_tear_30 ?_
      replace h := h.2
      refine v_iconst X dX6_tear_31 (v := (1 : Int32)) (by decide) ?_
      exact r _ _ _ (s_p0_latestFinding, s_p0_findingTimes, (upd s_p0_rowSizes (x_1).toNatClampNeg (-1 : Int32))) _ dX6_tear_32 h rfl
    · replace h := h.2 c_15
      refine v_aload_n X 0 dX6_tear_18 rfl rfl ?_
      refine v_iconst X dX6_tear_19 (v := (1 : Int32)) (by decide) ?_
      refine v_callVi X (As := [.int (1 : Int32)]) (rest := []) 1 0 (c_X6_refused (l := vl E) (D := vD E) (T := T) (o_p0 := o_p0) (a_p0 := a_p0) (o_S := o_S) (s_p0_sentSize := s_p0_sentSize) (s_p0_latestFinding := s_p0_latestFinding) (s_p0_latestTries := s_p0_latestTries) (s_p0_latestAsked := s_p0_latestAsked) (s_p0_findingTimes := s_p0_findingTimes) (x_1 := (1 : Int32)) h) gX6_tear_X6_refused rfl rfl (by decide +kernel) ⟨Nat.zero_le _, Nat.zero_le _⟩ ⟨rfl, rfl, by decide, by decide⟩ (Nat.le_of_ble_eq_true rfl) rfl rfl (wr := [vI T (a_p0 2) 4 s_p0_rowSizes]) [0, 1] [2] rfl rfl rfl rfl (by decide) rfl dX6_tear_20 (fun r_20 u h => ?_)
      obtain ⟨u_20_0, u_20_1⟩ := u
      dsimp only at h
      refine v_ws (ws' := (cl_X6_tear T o_p0 a_p0 o_S s_p0_sentSize u_20_0 s_p0_latestTries s_p0_latestAsked u_20_1 s_p0_rowSizes)) [1, 2, 0] rfl rfl ?_
      exact r _ _ _ (u_20_0, u_20_1, s_p0_rowSizes) _ dX6_tear_23 h rfl
  · replace h := h.2 c_4
    refine v_iconst X dX6_tear_7 (v := (-1 : Int32)) (by decide) ?_
    exact r _ _ _ (s_p0_latestFinding, s_p0_findingTimes, s_p0_rowSizes) _ dX6_tear_8 h rfl
-- X6_rowHasPlaces
abbrev cl_X6_rowHasPlaces (T : Nat → ClassId) (o_p0 : Nat) (a_p0 : Nat → Nat) (o_S : Nat) (s_p0_sentSize : Int32) (s_p0_latestFinding : Int32) (s_p0_latestTries : Int32) (s_p0_latestAsked : Int64) (s_p0_rowSizes : Nat → Int32) : va_W := [vO o_p0 3 [.ref (a_p0 0), .ref (a_p0 1), .ref (a_p0 2), .ref (a_p0 3), .ref (a_p0 4), .ref (a_p0 5), .ref (a_p0 6), .ref (a_p0 7), .ref o_S, .int s_p0_sentSize, .int s_p0_latestFinding, .int s_p0_latestTries, .long s_p0_latestAsked], vI T (a_p0 2) 4 s_p0_rowSizes]
abbrev r_X6_rowHasPlaces (E : vE) (T : Nat → ClassId) (o_p0 : Nat) (a_p0 : Nat → Nat) (o_S : Nat) (s_p0_sentSize : Int32) (s_p0_latestFinding : Int32) (s_p0_latestTries : Int32) (s_p0_latestAsked : Int64) (s_p0_rowSizes : Nat → Int32) (Q : Int32 → Prop) : Prop := vRz E cX6_rowHasPlaces (fun v (u : Unit) => Q v) (fun (u : Unit) => (cl_X6_rowHasPlaces T o_p0 a_p0 o_S s_p0_sentSize s_p0_latestFinding s_p0_latestTries s_p0_latestAsked s_p0_rowSizes))
def w_X6_rowHasPlaces_31 (t_0 : Int32) (s_p0_rowSizes : Nat → Int32) (Q : Int32 → Prop) : Prop := (vz t_0 ∧ Q t_0)
def w_X6_rowHasPlaces_30 (s_p0_rowSizes : Nat → Int32) (Q : Int32 → Prop) : Prop := (w_X6_rowHasPlaces_31 (0 : Int32) s_p0_rowSizes Q)
def w_X6_rowHasPlaces (x_1 : Int32) (x_2 : Int32) (x_3 : Int32) (s_p0_rowSizes : Nat → Int32) (Q : Int32 → Prop) : Prop := ((x_2 < 0 → (w_X6_rowHasPlaces_30 s_p0_rowSizes Q)) ∧ (¬ x_2 < 0 → (vp_in x_1 4 ∧ (((s_p0_rowSizes (x_1).toNatClampNeg) < x_2 → (w_X6_rowHasPlaces_30 s_p0_rowSizes Q)) ∧ (¬ (s_p0_rowSizes (x_1).toNatClampNeg) < x_2 → (vp_in x_1 4 ∧ ((((s_p0_rowSizes (x_1).toNatClampNeg) - x_2) < x_3 → (w_X6_rowHasPlaces_30 s_p0_rowSizes Q)) ∧ (¬ ((s_p0_rowSizes (x_1).toNatClampNeg) - x_2) < x_3 → (w_X6_rowHasPlaces_31 (1 : Int32) s_p0_rowSizes Q)))))))))
-- X6_rowHasPlaces
theorem iX6_rowHasPlaces_X6 : ∀ w ∈ wsX60, w ∈ wsX6_rowHasPlaces := by decide +kernel
set_option maxHeartbeats 4000000 in
set_option maxRecDepth 100000 in
theorem k_X6_rowHasPlaces_31 {E : vE} {T : Nat → ClassId} {o_p0 : Nat} {a_p0 : Nat → Nat} {o_S : Nat} {s_p0_sentSize : Int32} {s_p0_latestFinding : Int32} {s_p0_latestTries : Int32} {s_p0_latestAsked : Int64} {s_p0_rowSizes : Nat → Int32} {t_0 : Int32} {Q : Int32 → Prop} (X : vX E cX6_rowHasPlaces 4 RX6 wsX6_rowHasPlaces (vT T) (vr 0 0)) (r : r_X6_rowHasPlaces E T o_p0 a_p0 o_S s_p0_sentSize s_p0_latestFinding s_p0_latestTries s_p0_latestAsked s_p0_rowSizes Q) (h : w_X6_rowHasPlaces_31 t_0 s_p0_rowSizes Q) : V E 0 0 31 [] [.int t_0] (cl_X6_rowHasPlaces T o_p0 a_p0 o_S s_p0_sentSize s_p0_latestFinding s_p0_latestTries s_p0_latestAsked s_p0_rowSizes) := by
  unfold w_X6_rowHasPlaces_31 at h
  exact r _ _ _ () _ dX6_rowHasPlaces_31 h.1 h.2 rfl
set_option maxHeartbeats 4000000 in
set_option maxRecDepth 100000 in
theorem k_X6_rowHasPlaces_30 {E : vE} {T : Nat → ClassId} {o_p0 : Nat} {a_p0 : Nat → Nat} {o_S : Nat} {s_p0_sentSize : Int32} {s_p0_latestFinding : Int32} {s_p0_latestTries : Int32} {s_p0_latestAsked : Int64} {s_p0_rowSizes : Nat → Int32} {Q : Int32 → Prop} (X : vX E cX6_rowHasPlaces 4 RX6 wsX6_rowHasPlaces (vT T) (vr 0 0)) (r : r_X6_rowHasPlaces E T o_p0 a_p0 o_S s_p0_sentSize s_p0_latestFinding s_p0_latestTries s_p0_latestAsked s_p0_rowSizes Q) (h : w_X6_rowHasPlaces_30 s_p0_rowSizes Q) : V E 0 0 30 [] [] (cl_X6_rowHasPlaces T o_p0 a_p0 o_S s_p0_sentSize s_p0_latestFinding s_p0_latestTries s_p0_latestAsked s_p0_rowSizes) := by
  unfold w_X6_rowHasPlaces_30 at h
  refine v_iconst X dX6_rowHasPlaces_30 (v := (0 : Int32)) (by decide) ?_
  exact k_X6_rowHasPlaces_31 X r h
set_option maxHeartbeats 4000000 in
set_option maxRecDepth 100000 in
theorem c_X6_rowHasPlaces {l : Launch} {D : va_G} {T : Nat → ClassId} {o_p0 : Nat} {a_p0 : Nat → Nat} {o_S : Nat} {s_p0_sentSize : Int32} {s_p0_latestFinding : Int32} {s_p0_latestTries : Int32} {s_p0_latestAsked : Int64} {s_p0_rowSizes : Nat → Int32} {x_1 : Int32} {x_2 : Int32} {x_3 : Int32} {Q : Int32 → Prop} (h : w_X6_rowHasPlaces x_1 x_2 x_3 s_p0_rowSizes Q) : vCi l D (vT T) yX6_rowHasPlaces wsX6_rowHasPlaces (vr 0 0) [.ref o_p0, .int x_1, .int x_2, .int x_3] (cl_X6_rowHasPlaces T o_p0 a_p0 o_S s_p0_sentSize s_p0_latestFinding s_p0_latestTries s_p0_latestAsked s_p0_rowSizes) (fun v (u : Unit) => Q v) (fun (u : Unit) => (cl_X6_rowHasPlaces T o_p0 a_p0 o_S s_p0_sentSize s_p0_latestFinding s_p0_latestTries s_p0_latestAsked s_p0_rowSizes)) := by
  refine vC_z (cc := cX6_rowHasPlaces) (nL := 4) (by decide +kernel) rfl ⟨rfl, rfl⟩ (Nat.le_of_ble_eq_true rfl) rfl ?_
  intro E el eD X r
  unfold w_X6_rowHasPlaces at h
  refine v_iload_n X 2 dX6_rowHasPlaces_0 rfl rfl ?_
  refine v_if_lt X (tgt := 30) dX6_rowHasPlaces_1 (by decide) (fun c_1 => ?_) (fun c_1 => ?_)
  · replace h := h.1 c_1
    refine v_lv (lv' := []) [] rfl ?_
    exact k_X6_rowHasPlaces_30 X r h
  · replace h := h.2 c_1
    refine v_iload_n X 2 dX6_rowHasPlaces_4 rfl rfl ?_
    refine v_aload_n X 0 dX6_rowHasPlaces_5 rfl rfl ?_
    refine v_get X 0 2 (F := TX6) (N := 13) iX6_rowHasPlaces_X6 rfl rfl (by decide) (List.mem_of_getElem? (i := 1) rfl) rfl rfl dX6_rowHasPlaces_6 ?_
    refine v_iload_n X 1 dX6_rowHasPlaces_9 rfl rfl ?_
    refine v_iald X 1 0 rfl rfl h.1 dX6_rowHasPlaces_10 ?_
    replace h := h.2
    refine v_icmp_gt X (tgt := 30) dX6_rowHasPlaces_11 (by decide) (fun c_11 => ?_) (fun c_11 => ?_)
    · replace h := h.1 c_11
      refine v_lv (lv' := []) [] rfl ?_
      exact k_X6_rowHasPlaces_30 X r h
    · replace h := h.2 c_11
      refine v_iload_n X 3 dX6_rowHasPlaces_14 rfl rfl ?_
      refine v_aload_n X 0 dX6_rowHasPlaces_15 rfl rfl ?_
      refine v_get X 0 2 (F := TX6) (N := 13) iX6_rowHasPlaces_X6 rfl rfl (by decide) (List.mem_of_getElem? (i := 1) rfl) rfl rfl dX6_rowHasPlaces_16 ?_
      refine v_iload_n X 1 dX6_rowHasPlaces_19 rfl rfl ?_
      refine v_iald X 1 0 rfl rfl h.1 dX6_rowHasPlaces_20 ?_
      replace h := h.2
      refine v_iload_n X 2 dX6_rowHasPlaces_21 rfl rfl ?_
      refine v_isub X dX6_rowHasPlaces_22 ?_
      refine v_icmp_gt X (tgt := 30) dX6_rowHasPlaces_23 (by decide) (fun c_23 => ?_) (fun c_23 => ?_)
      · replace h := h.1 c_23
        refine v_lv (lv' := []) [] rfl ?_
        exact k_X6_rowHasPlaces_30 X r h
      · replace h := h.2 c_23
        refine v_iconst X dX6_rowHasPlaces_26 (v := (1 : Int32)) (by decide) ?_
        refine v_goto X (tgt := 31) dX6_rowHasPlaces_27 (by decide) ?_
        refine v_lv (lv' := []) [] rfl ?_
        exact k_X6_rowHasPlaces_31 X r h
-- X6_copy
abbrev cl_X6_copy (T : Nat → ClassId) (o_p0 : Nat) (a_p0 : Nat → Nat) (o_S : Nat) (o_O : Nat) (o_P : Nat) (s_p0_sentSize : Int32) (s_p0_latestFinding : Int32) (s_p0_latestTries : Int32) (s_p0_latestAsked : Int64) (s_O : Nat → Int32) (s_P : Nat → Int32) (s_p0_findingTimes : Nat → Int32) (s_p0_rowPlaces : Nat → Option Nat) (s_p0_rowSizes : Nat → Int32) : va_W := [vO o_p0 3 [.ref (a_p0 0), .ref (a_p0 1), .ref (a_p0 2), .ref (a_p0 3), .ref (a_p0 4), .ref (a_p0 5), .ref (a_p0 6), .ref (a_p0 7), .ref o_S, .int s_p0_sentSize, .int s_p0_latestFinding, .int s_p0_latestTries, .long s_p0_latestAsked], vI T o_O 12 s_O, vI T o_P 12 s_P, vI T (a_p0 3) 6 s_p0_findingTimes, vR T 3 (a_p0 1) 4 s_p0_rowPlaces, vI T (a_p0 2) 4 s_p0_rowSizes]
abbrev r_X6_copy (E : vE) (T : Nat → ClassId) (o_p0 : Nat) (a_p0 : Nat → Nat) (o_S : Nat) (o_O : Nat) (o_P : Nat) (s_p0_sentSize : Int32) (s_p0_latestTries : Int32) (s_p0_latestAsked : Int64) (s_P : Nat → Int32) (s_p0_rowPlaces : Nat → Option Nat) (s_p0_rowSizes : Nat → Int32) (Q : Int32 → (Int32) → (Nat → Int32) → (Nat → Int32) → Prop) : Prop := vRi E cX6_copy (fun v (u : (Int32) × (Nat → Int32) × (Nat → Int32)) => Q v u.1 u.2.1 u.2.2) (fun (u : (Int32) × (Nat → Int32) × (Nat → Int32)) => (cl_X6_copy T o_p0 a_p0 o_S o_O o_P s_p0_sentSize u.1 s_p0_latestTries s_p0_latestAsked u.2.1 s_P u.2.2 s_p0_rowPlaces s_p0_rowSizes))
def w_X6_copy_74 (s_p0_latestFinding : Int32) (s_O : Nat → Int32) (s_P : Nat → Int32) (s_p0_findingTimes : Nat → Int32) (s_p0_rowPlaces : Nat → Option Nat) (s_p0_rowSizes : Nat → Int32) (o_P : Nat) (o_O : Nat) (Q : Int32 → (Int32) → (Nat → Int32) → (Nat → Int32) → Prop) : Prop := (w_X6_refused (2 : Int32) s_p0_latestFinding s_p0_findingTimes (fun (r_76 : Int32) (u_76_0 : Int32) (u_76_1 : Nat → Int32) => (Q r_76 u_76_0 s_O u_76_1)))
def w_X6_copy_45 (s_p0_latestFinding : Int32) (s_O : Nat → Int32) (s_P : Nat → Int32) (s_p0_findingTimes : Nat → Int32) (s_p0_rowPlaces : Nat → Option Nat) (s_p0_rowSizes : Nat → Int32) (o_P : Nat) (o_O : Nat) (Q : Int32 → (Int32) → (Nat → Int32) → (Nat → Int32) → Prop) : Prop := (w_X6_refused (1 : Int32) s_p0_latestFinding s_p0_findingTimes (fun (r_47 : Int32) (u_47_0 : Int32) (u_47_1 : Nat → Int32) => (Q r_47 u_47_0 s_O u_47_1)))
def w_X6_copy_14 (s_p0_latestFinding : Int32) (s_O : Nat → Int32) (s_P : Nat → Int32) (s_p0_findingTimes : Nat → Int32) (s_p0_rowPlaces : Nat → Option Nat) (s_p0_rowSizes : Nat → Int32) (o_P : Nat) (o_O : Nat) (Q : Int32 → (Int32) → (Nat → Int32) → (Nat → Int32) → Prop) : Prop := (Q (-1 : Int32) s_p0_latestFinding s_O s_p0_findingTimes)
def w_X6_copy (x_1 : Int32) (x_2 : Int32) (x_3 : Int32) (x_4 : Int32) (x_5 : Int32) (s_p0_latestFinding : Int32) (s_O : Nat → Int32) (s_P : Nat → Int32) (s_p0_findingTimes : Nat → Int32) (s_p0_rowPlaces : Nat → Option Nat) (s_p0_rowSizes : Nat → Int32) (o_P : Nat) (o_O : Nat) (Q : Int32 → (Int32) → (Nat → Int32) → (Nat → Int32) → Prop) : Prop := (w_X6_isRowNumber x_1 (fun (r_1 : Int32) => ((r_1 = 0 → (w_X6_copy_14 s_p0_latestFinding s_O s_P s_p0_findingTimes s_p0_rowPlaces s_p0_rowSizes o_P o_O Q)) ∧ (¬ r_1 = 0 → (w_X6_isRowNumber x_3 (fun (r_8 : Int32) => ((¬ r_8 = 0 → ((0 ≤ x_5 → (vp_in x_1 4 ∧ (((s_p0_rowSizes (x_1).toNatClampNeg) < 0 → (w_X6_copy_45 s_p0_latestFinding s_O s_P s_p0_findingTimes s_p0_rowPlaces s_p0_rowSizes o_P o_O Q)) ∧ (¬ (s_p0_rowSizes (x_1).toNatClampNeg) < 0 → (vp_in x_3 4 ∧ ((0 ≤ (s_p0_rowSizes (x_3).toNatClampNeg) → (w_X6_rowHasPlaces x_1 x_2 x_5 s_p0_rowSizes (fun (r_56 : Int32) => ((r_56 = 0 → (w_X6_copy_74 s_p0_latestFinding s_O s_P s_p0_findingTimes s_p0_rowPlaces s_p0_rowSizes o_P o_O Q)) ∧ (¬ r_56 = 0 → (w_X6_rowHasPlaces x_3 x_4 x_5 s_p0_rowSizes (fun (r_68 : Int32) => ((¬ r_68 = 0 → (vp_in x_1 4 ∧ s_p0_rowPlaces (x_1).toNatClampNeg = some o_P ∧ (vp_in x_3 4 ∧ s_p0_rowPlaces (x_3).toNatClampNeg = some o_O ∧ (¬ x_2 < 0 ∧ ¬ x_4 < 0 ∧ ¬ x_5 < 0 ∧ (x_2).toNatClampNeg + (x_5).toNatClampNeg ≤ 12 ∧ (x_4).toNatClampNeg + (x_5).toNatClampNeg ≤ 12 ∧ (Q (1 : Int32) s_p0_latestFinding (va_cpy s_P s_O (x_2).toNatClampNeg (x_4).toNatClampNeg (x_5).toNatClampNeg) s_p0_findingTimes))))) ∧ (r_68 = 0 → (w_X6_copy_74 s_p0_latestFinding s_O s_P s_p0_findingTimes s_p0_rowPlaces s_p0_rowSizes o_P o_O Q)))))))))) ∧ (¬ 0 ≤ (s_p0_rowSizes (x_3).toNatClampNeg) → (w_X6_copy_45 s_p0_latestFinding s_O s_P s_p0_findingTimes s_p0_rowPlaces s_p0_rowSizes o_P o_O Q)))))))) ∧ (¬ 0 ≤ x_5 → (w_X6_refused (5 : Int32) s_p0_latestFinding s_p0_findingTimes (fun (r_23 : Int32) (u_23_0 : Int32) (u_23_1 : Nat → Int32) => (Q r_23 u_23_0 s_O u_23_1)))))) ∧ (r_8 = 0 → (w_X6_copy_14 s_p0_latestFinding s_O s_P s_p0_findingTimes s_p0_rowPlaces s_p0_rowSizes o_P o_O Q)))))))))
-- X6_copy
theorem iX6_copy_X6 : ∀ w ∈ wsX60, w ∈ wsX6_copy := by decide +kernel
set_option maxHeartbeats 4000000 in
set_option maxRecDepth 100000 in
theorem k_X6_copy_74 {E : vE} {T : Nat → ClassId} {o_p0 : Nat} {a_p0 : Nat → Nat} {o_S : Nat} {o_O : Nat} {o_P : Nat} {s_p0_sentSize : Int32} {s_p0_latestFinding : Int32} {s_p0_latestTries : Int32} {s_p0_latestAsked : Int64} {s_O : Nat → Int32} {s_P : Nat → Int32} {s_p0_findingTimes : Nat → Int32} {s_p0_rowPlaces : Nat → Option Nat} {s_p0_rowSizes : Nat → Int32} {Q : Int32 → (Int32) → (Nat → Int32) → (Nat → Int32) → Prop} (X : vX E cX6_copy 6 RX6 wsX6_copy (vT T) (vr 1 68)) (r : r_X6_copy E T o_p0 a_p0 o_S o_O o_P s_p0_sentSize s_p0_latestTries s_p0_latestAsked s_P s_p0_rowPlaces s_p0_rowSizes Q) (h : w_X6_copy_74 s_p0_latestFinding s_O s_P s_p0_findingTimes s_p0_rowPlaces s_p0_rowSizes o_P o_O Q) : V E 0 0 74 [(0, .ref o_p0)] [] (cl_X6_copy T o_p0 a_p0 o_S o_O o_P s_p0_sentSize s_p0_latestFinding s_p0_latestTries s_p0_latestAsked s_O s_P s_p0_findingTimes s_p0_rowPlaces s_p0_rowSizes) := by
  unfold w_X6_copy_74 at h
  refine v_aload_n X 0 dX6_copy_74 rfl rfl ?_
  refine v_iconst X dX6_copy_75 (v := (2 : Int32)) (by decide) ?_
  refine v_callVi X (As := [.int (2 : Int32)]) (rest := []) 1 0 (c_X6_refused (l := vl E) (D := vD E) (T := T) (o_p0 := o_p0) (a_p0 := a_p0) (o_S := o_S) (s_p0_sentSize := s_p0_sentSize) (s_p0_latestFinding := s_p0_latestFinding) (s_p0_latestTries := s_p0_latestTries) (s_p0_latestAsked := s_p0_latestAsked) (s_p0_findingTimes := s_p0_findingTimes) (x_1 := (2 : Int32)) h) gX6_copy_X6_refused rfl rfl (by decide +kernel) ⟨Nat.zero_le _, Nat.zero_le _⟩ ⟨rfl, rfl, by decide, by decide⟩ (Nat.le_of_ble_eq_true rfl) rfl rfl (wr := [vI T o_O 12 s_O, vI T o_P 12 s_P, vR T 3 (a_p0 1) 4 s_p0_rowPlaces, vI T (a_p0 2) 4 s_p0_rowSizes]) [0, 3] [1, 2, 4, 5] rfl rfl rfl rfl (by decide) rfl dX6_copy_76 (fun r_76 u h => ?_)
  obtain ⟨u_76_0, u_76_1⟩ := u
  dsimp only at h
  refine v_ws (ws' := (cl_X6_copy T o_p0 a_p0 o_S o_O o_P s_p0_sentSize u_76_0 s_p0_latestTries s_p0_latestAsked s_O s_P u_76_1 s_p0_rowPlaces s_p0_rowSizes)) [4, 0, 1, 5, 2, 3] rfl rfl ?_
  exact r _ _ _ (u_76_0, s_O, u_76_1) _ dX6_copy_79 h rfl
set_option maxHeartbeats 4000000 in
set_option maxRecDepth 100000 in
theorem k_X6_copy_45 {E : vE} {T : Nat → ClassId} {o_p0 : Nat} {a_p0 : Nat → Nat} {o_S : Nat} {o_O : Nat} {o_P : Nat} {s_p0_sentSize : Int32} {s_p0_latestFinding : Int32} {s_p0_latestTries : Int32} {s_p0_latestAsked : Int64} {s_O : Nat → Int32} {s_P : Nat → Int32} {s_p0_findingTimes : Nat → Int32} {s_p0_rowPlaces : Nat → Option Nat} {s_p0_rowSizes : Nat → Int32} {Q : Int32 → (Int32) → (Nat → Int32) → (Nat → Int32) → Prop} (X : vX E cX6_copy 6 RX6 wsX6_copy (vT T) (vr 1 68)) (r : r_X6_copy E T o_p0 a_p0 o_S o_O o_P s_p0_sentSize s_p0_latestTries s_p0_latestAsked s_P s_p0_rowPlaces s_p0_rowSizes Q) (h : w_X6_copy_45 s_p0_latestFinding s_O s_P s_p0_findingTimes s_p0_rowPlaces s_p0_rowSizes o_P o_O Q) : V E 0 0 45 [(0, .ref o_p0)] [] (cl_X6_copy T o_p0 a_p0 o_S o_O o_P s_p0_sentSize s_p0_latestFinding s_p0_latestTries s_p0_latestAsked s_O s_P s_p0_findingTimes s_p0_rowPlaces s_p0_rowSizes) := by
  unfold w_X6_copy_45 at h
  refine v_aload_n X 0 dX6_copy_45 rfl rfl ?_
  refine v_iconst X dX6_copy_46 (v := (1 : Int32)) (by decide) ?_
  refine v_callVi X (As := [.int (1 : Int32)]) (rest := []) 1 0 (c_X6_refused (l := vl E) (D := vD E) (T := T) (o_p0 := o_p0) (a_p0 := a_p0) (o_S := o_S) (s_p0_sentSize := s_p0_sentSize) (s_p0_latestFinding := s_p0_latestFinding) (s_p0_latestTries := s_p0_latestTries) (s_p0_latestAsked := s_p0_latestAsked) (s_p0_findingTimes := s_p0_findingTimes) (x_1 := (1 : Int32)) h) gX6_copy_X6_refused rfl rfl (by decide +kernel) ⟨Nat.zero_le _, Nat.zero_le _⟩ ⟨rfl, rfl, by decide, by decide⟩ (Nat.le_of_ble_eq_true rfl) rfl rfl (wr := [vI T o_O 12 s_O, vI T o_P 12 s_P, vR T 3 (a_p0 1) 4 s_p0_rowPlaces, vI T (a_p0 2) 4 s_p0_rowSizes]) [0, 3] [1, 2, 4, 5] rfl rfl rfl rfl (by decide) rfl dX6_copy_47 (fun r_47 u h => ?_)
  obtain ⟨u_47_0, u_47_1⟩ := u
  dsimp only at h
  refine v_ws (ws' := (cl_X6_copy T o_p0 a_p0 o_S o_O o_P s_p0_sentSize u_47_0 s_p0_latestTries s_p0_latestAsked s_O s_P u_47_1 s_p0_rowPlaces s_p0_rowSizes)) [4, 0, 1, 5, 2, 3] rfl rfl ?_
  exact r _ _ _ (u_47_0, s_O, u_47_1) _ dX6_copy_50 h rfl
set_option maxHeartbeats 4000000 in
set_option maxRecDepth 100000 in
theorem k_X6_copy_14 {E : vE} {T : Nat → ClassId} {o_p0 : Nat} {a_p0 : Nat → Nat} {o_S : Nat} {o_O : Nat} {o_P : Nat} {s_p0_sentSize : Int32} {s_p0_latestFinding : Int32} {s_p0_latestTries : Int32} {s_p0_latestAsked : Int64} {s_O : Nat → Int32} {s_P : Nat → Int32} {s_p0_findingTimes : Nat → Int32} {s_p0_rowPlaces : Nat → Option Nat} {s_p0_rowSizes : Nat → Int32} {Q : Int32 → (Int32) → (Nat → Int32) → (Nat → Int32) → Prop} (X : vX E cX6_copy 6 RX6 wsX6_copy (vT T) (vr 1 68)) (r : r_X6_copy E T o_p0 a_p0 o_S o_O o_P s_p0_sentSize s_p0_latestTries s_p0_latestAsked s_P s_p0_rowPlaces s_p0_rowSizes Q) (h : w_X6_copy_14 s_p0_latestFinding s_O s_P s_p0_findingTimes s_p0_rowPlaces s_p0_rowSizes o_P o_O Q) : V E 0 0 14 [] [] (cl_X6_copy T o_p0 a_p0 o_S o_O o_P s_p0_sentSize s_p0_latestFinding s_p0_latestTries s_p0_latestAsked s_O s_P s_p0_findingTimes s_p0_rowPlaces s_p0_rowSizes) := by
  unfold w_X6_copy_14 at h
  refine v_iconst X dX6_copy_14 (v := (-1 : Int32)) (by decide) ?_
  exact r _ _ _ (s_p0_latestFinding, s_O, s_p0_findingTimes) _ dX6_copy_15 h rfl
set_option maxHeartbeats 4000000 in
set_option maxRecDepth 100000 in
theorem c_X6_copy {l : Launch} {D : va_G} {T : Nat → ClassId} {o_p0 : Nat} {a_p0 : Nat → Nat} {o_S : Nat} {o_O : Nat} {o_P : Nat} {s_p0_sentSize : Int32} {s_p0_latestFinding : Int32} {s_p0_latestTries : Int32} {s_p0_latestAsked : Int64} {s_O : Nat → Int32} {s_P : Nat → Int32} {s_p0_findingTimes : Nat → Int32} {s_p0_rowPlaces : Nat → Option Nat} {s_p0_rowSizes : Nat → Int32} {x_1 : Int32} {x_2 : Int32} {x_3 : Int32} {x_4 : Int32} {x_5 : Int32} {Q : Int32 → (Int32) → (Nat → Int32) → (Nat → Int32) → Prop} (h : w_X6_copy x_1 x_2 x_3 x_4 x_5 s_p0_latestFinding s_O s_P s_p0_findingTimes s_p0_rowPlaces s_p0_rowSizes o_P o_O Q) : vCi l D (vT T) yX6_copy wsX6_copy (vr 1 68) [.ref o_p0, .int x_1, .int x_2, .int x_3, .int x_4, .int x_5] (cl_X6_copy T o_p0 a_p0 o_S o_O o_P s_p0_sentSize s_p0_latestFinding s_p0_latestTries s_p0_latestAsked s_O s_P s_p0_findingTimes s_p0_rowPlaces s_p0_rowSizes) (fun v (u : (Int32) × (Nat → Int32) × (Nat → Int32)) => Q v u.1 u.2.1 u.2.2) (fun (u : (Int32) × (Nat → Int32) × (Nat → Int32)) => (cl_X6_copy T o_p0 a_p0 o_S o_O o_P s_p0_sentSize u.1 s_p0_latestTries s_p0_latestAsked u.2.1 s_P u.2.2 s_p0_rowPlaces s_p0_rowSizes)) := by
  refine vC_i (cc := cX6_copy) (nL := 6) (by decide +kernel) rfl ⟨rfl, rfl⟩ (Nat.le_of_ble_eq_true rfl) rfl ?_
  intro E el eD X r
  unfold w_X6_copy at h
  refine v_iload_n X 1 dX6_copy_0 rfl rfl ?_
  refine v_callSi0 X (As := [.int x_1]) (rest := []) 1 (c_X6_isRowNumber (l := vl E) (D := vD E) (T := T) (x_0 := x_1) h) gX6_copy_X6_isRowNumber rfl rfl (by decide +kernel) ⟨Nat.zero_le _, Nat.zero_le _⟩ ⟨rfl, rfl, by decide, by decide⟩ (Nat.le_of_ble_eq_true rfl) rfl dX6_copy_1 (fun r_1 h => ?_)
  refine v_if_eq X (tgt := 14) dX6_copy_4 (by decide) (fun c_4 => ?_) (fun c_4 => ?_)
  · replace h := h.1 c_4
    refine v_lv (lv' := []) [] rfl ?_
    exact k_X6_copy_14 X r h
  · replace h := h.2 c_4
    refine v_iload_n X 3 dX6_copy_7 rfl rfl ?_
    refine v_callSi0 X (As := [.int x_3]) (rest := []) 1 (c_X6_isRowNumber (l := vl E) (D := vD E) (T := T) (x_0 := x_3) h) gX6_copy_X6_isRowNumber rfl rfl (by decide +kernel) ⟨Nat.zero_le _, Nat.zero_le _⟩ ⟨rfl, rfl, by decide, by decide⟩ (Nat.le_of_ble_eq_true rfl) rfl dX6_copy_8 (fun r_8 h => ?_)
    refine v_if_ne X (tgt := 16) dX6_copy_11 (by decide) (fun c_11 => ?_) (fun c_11 => ?_)
    · replace h := h.1 c_11
      refine v_iload X 5 dX6_copy_16 rfl ?_
      refine v_if_ge X (tgt := 27) dX6_copy_18 (by decide) (fun c_18 => ?_) (fun c_18 => ?_)
      · replace h := h.1 c_18
        refine v_aload_n X 0 dX6_copy_27 rfl rfl ?_
        refine v_get X 0 2 (F := TX6) (N := 13) iX6_copy_X6 rfl rfl (by decide) (List.mem_of_getElem? (i := 1) rfl) rfl rfl dX6_copy_28 ?_
        refine v_iload_n X 1 dX6_copy_31 rfl rfl ?_
        refine v_iald X 5 0 rfl rfl h.1 dX6_copy_32 ?_
        replace h := h.2
        refine v_if_lt X (tgt := 45) dX6_copy_33 (by decide) (fun c_33 => ?_) (fun c_33 => ?_)
        · replace h := h.1 c_33
          refine v_lv (lv' := [(0, .ref o_p0)]) [0] rfl ?_
          exact k_X6_copy_45 X r h
        · replace h := h.2 c_33
          refine v_aload_n X 0 dX6_copy_36 rfl rfl ?_
          refine v_get X 0 2 (F := TX6) (N := 13) iX6_copy_X6 rfl rfl (by decide) (List.mem_of_getElem? (i := 1) rfl) rfl rfl dX6_copy_37 ?_
          refine v_iload_n X 3 dX6_copy_40 rfl rfl ?_
          refine v_iald X 5 0 rfl rfl h.1 dX6_copy_41 ?_
          replace h := h.2
          refine v_if_ge X (tgt := 51) dX6_copy_42 (by decide) (fun c_42 => ?_) (fun c_42 => ?_)
          · replace h := h.1 c_42
            refine v_aload_n X 0 dX6_copy_51 rfl rfl ?_
            refine v_iload_n X 1 dX6_copy_52 rfl rfl ?_
            refine v_iload_n X 2 dX6_copy_53 rfl rfl ?_
            refine v_iload X 5 dX6_copy_54 rfl ?_
            refine v_callVi X (As := [.int x_1, .int x_2, .int x_5]) (rest := []) 3 0 (c_X6_rowHasPlaces (l := vl E) (D := vD E) (T := T) (o_p0 := o_p0) (a_p0 := a_p0) (o_S := o_S) (s_p0_sentSize := s_p0_sentSize) (s_p0_latestFinding := s_p0_latestFinding) (s_p0_latestTries := s_p0_latestTries) (s_p0_latestAsked := s_p0_latestAsked) (s_p0_rowSizes := s_p0_rowSizes) (x_1 := x_1) (x_2 := x_2) (x_3 := x_5) h) gX6_copy_X6_rowHasPlaces rfl rfl (by decide +kernel) ⟨Nat.zero_le _, Nat.zero_le _⟩ ⟨rfl, rfl, by decide, by decide⟩ (Nat.le_of_ble_eq_true rfl) rfl rfl (wr := [vI T o_O 12 s_O, vI T o_P 12 s_P, vI T (a_p0 3) 6 s_p0_findingTimes, vR T 3 (a_p0 1) 4 s_p0_rowPlaces]) [0, 5] [1, 2, 3, 4] rfl rfl rfl rfl (by decide) rfl dX6_copy_56 (fun r_56 u h => ?_)
            refine v_ws (ws' := (cl_X6_copy T o_p0 a_p0 o_S o_O o_P s_p0_sentSize s_p0_latestFinding s_p0_latestTries s_p0_latestAsked s_O s_P s_p0_findingTimes s_p0_rowPlaces s_p0_rowSizes)) [4, 0, 1, 2, 3, 5] rfl rfl ?_
            refine v_if_eq X (tgt := 74) dX6_copy_59 (by decide) (fun c_59 => ?_) (fun c_59 => ?_)
            · replace h := h.1 c_59
              refine v_lv (lv' := [(0, .ref o_p0)]) [0] rfl ?_
              exact k_X6_copy_74 X r h
            · replace h := h.2 c_59
              refine v_aload_n X 0 dX6_copy_62 rfl rfl ?_
              refine v_iload_n X 3 dX6_copy_63 rfl rfl ?_
              refine v_iload X 4 dX6_copy_64 rfl ?_
              refine v_iload X 5 dX6_copy_66 rfl ?_
              refine v_callVi X (As := [.int x_3, .int x_4, .int x_5]) (rest := []) 3 0 (c_X6_rowHasPlaces (l := vl E) (D := vD E) (T := T) (o_p0 := o_p0) (a_p0 := a_p0) (o_S := o_S) (s_p0_sentSize := s_p0_sentSize) (s_p0_latestFinding := s_p0_latestFinding) (s_p0_latestTries := s_p0_latestTries) (s_p0_latestAsked := s_p0_latestAsked) (s_p0_rowSizes := s_p0_rowSizes) (x_1 := x_3) (x_2 := x_4) (x_3 := x_5) h) gX6_copy_X6_rowHasPlaces rfl rfl (by decide +kernel) ⟨Nat.zero_le _, Nat.zero_le _⟩ ⟨rfl, rfl, by decide, by decide⟩ (Nat.le_of_ble_eq_true rfl) rfl rfl (wr := [vI T o_O 12 s_O, vI T o_P 12 s_P, vI T (a_p0 3) 6 s_p0_findingTimes, vR T 3 (a_p0 1) 4 s_p0_rowPlaces]) [0, 5] [1, 2, 3, 4] rfl rfl rfl rfl (by decide) rfl dX6_copy_68 (fun r_68 u h => ?_)
              refine v_ws (ws' := (cl_X6_copy T o_p0 a_p0 o_S o_O o_P s_p0_sentSize s_p0_latestFinding s_p0_latestTries s_p0_latestAsked s_O s_P s_p0_findingTimes s_p0_rowPlaces s_p0_rowSizes)) [4, 0, 1, 2, 3, 5] rfl rfl ?_
              refine v_if_ne X (tgt := 80) dX6_copy_71 (by decide) (fun c_71 => ?_) (fun c_71 => ?_)
              · replace h := h.1 c_71
                refine v_aload_n X 0 dX6_copy_80 rfl rfl ?_
                refine v_get X 0 1 (F := TX6) (N := 13) iX6_copy_X6 rfl rfl (by decide) (List.mem_of_getElem? (i := 2) rfl) rfl rfl dX6_copy_81 ?_
                refine v_iload_n X 1 dX6_copy_84 rfl rfl ?_
                refine v_aaldA X 4 3 rfl rfl h.1 h.2.1 dX6_copy_85 ?_
                replace h := h.2.2
                refine v_iload_n X 2 dX6_copy_86 rfl rfl ?_
                refine v_aload_n X 0 dX6_copy_87 rfl rfl ?_
                refine v_get X 0 1 (F := TX6) (N := 13) iX6_copy_X6 rfl rfl (by decide) (List.mem_of_getElem? (i := 2) rfl) rfl rfl dX6_copy_88 ?_
                refine v_iload_n X 3 dX6_copy_91 rfl rfl ?_
                refine v_aaldA X 4 3 rfl rfl h.1 h.2.1 dX6_copy_92 ?_
                replace h := h.2.2
                refine v_iload X 4 dX6_copy_93 rfl ?_
                refine v_iload X 5 dX6_copy_95 rfl ?_
                refine v_copyi X (ws' := (cl_X6_copy T o_p0 a_p0 o_S o_O o_P s_p0_sentSize s_p0_latestFinding s_p0_latestTries s_p0_latestAsked (va_cpy s_P s_O (x_2).toNatClampNeg (x_4).toNatClampNeg (x_5).toNatClampNeg) s_P s_p0_findingTimes s_p0_rowPlaces s_p0_rowSizes)) 2 1 0 0 (List.mem_of_getElem? (i := 3) rfl) (List.mem_of_getElem? (i := 4) rfl) (List.mem_of_getElem? (i := 5) rfl) (List.mem_of_getElem? (i := 6) rfl) rfl rfl rfl rfl h.1 h.2.1 h.2.2.1 h.2.2.2.1 h.2.2.2.2.1 (by decide) (by decide) rfl dX6_copy_97 ?_
                replace h := h.2.2.2.2.2
                refine v_iconst X dX6_copy_100 (v := (1 : Int32)) (by decide) ?_
                exact r _ _ _ (s_p0_latestFinding, (va_cpy s_P s_O (x_2).toNatClampNeg (x_4).toNatClampNeg (x_5).toNatClampNeg), s_p0_findingTimes) _ dX6_copy_101 h rfl
              · replace h := h.2 c_71
                refine v_lv (lv' := [(0, .ref o_p0)]) [0] rfl ?_
                exact k_X6_copy_74 X r h
          · replace h := h.2 c_42
            refine v_lv (lv' := [(0, .ref o_p0)]) [0] rfl ?_
            exact k_X6_copy_45 X r h
      · replace h := h.2 c_18
        refine v_aload_n X 0 dX6_copy_21 rfl rfl ?_
        refine v_iconst X dX6_copy_22 (v := (5 : Int32)) (by decide) ?_
        refine v_callVi X (As := [.int (5 : Int32)]) (rest := []) 1 0 (c_X6_refused (l := vl E) (D := vD E) (T := T) (o_p0 := o_p0) (a_p0 := a_p0) (o_S := o_S) (s_p0_sentSize := s_p0_sentSize) (s_p0_latestFinding := s_p0_latestFinding) (s_p0_latestTries := s_p0_latestTries) (s_p0_latestAsked := s_p0_latestAsked) (s_p0_findingTimes := s_p0_findingTimes) (x_1 := (5 : Int32)) h) gX6_copy_X6_refused rfl rfl (by decide +kernel) ⟨Nat.zero_le _, Nat.zero_le _⟩ ⟨rfl, rfl, by decide, by decide⟩ (Nat.le_of_ble_eq_true rfl) rfl rfl (wr := [vI T o_O 12 s_O, vI T o_P 12 s_P, vR T 3 (a_p0 1) 4 s_p0_rowPlaces, vI T (a_p0 2) 4 s_p0_rowSizes]) [0, 3] [1, 2, 4, 5] rfl rfl rfl rfl (by decide) rfl dX6_copy_23 (fun r_23 u h => ?_)
        obtain ⟨u_23_0, u_23_1⟩ := u
        dsimp only at h
        refine v_ws (ws' := (cl_X6_copy T o_p0 a_p0 o_S o_O o_P s_p0_sentSize u_23_0 s_p0_latestTries s_p0_latestAsked s_O s_P u_23_1 s_p0_rowPlaces s_p0_rowSizes)) [4, 0, 1, 5, 2, 3] rfl rfl ?_
        exact r _ _ _ (u_23_0, s_O, u_23_1) _ dX6_copy_26 h rfl
    · replace h := h.2 c_11
      refine v_lv (lv' := []) [] rfl ?_
      exact k_X6_copy_14 X r h
abbrev cl_X6_copy_a (T : Nat → ClassId) (o_p0 : Nat) (a_p0 : Nat → Nat) (o_S : Nat) (o_P : Nat) (s_p0_sentSize : Int32) (s_p0_latestFinding : Int32) (s_p0_latestTries : Int32) (s_p0_latestAsked : Int64) (s_P : Nat → Int32) (s_p0_findingTimes : Nat → Int32) (s_p0_rowPlaces : Nat → Option Nat) (s_p0_rowSizes : Nat → Int32) : va_W := [vO o_p0 3 [.ref (a_p0 0), .ref (a_p0 1), .ref (a_p0 2), .ref (a_p0 3), .ref (a_p0 4), .ref (a_p0 5), .ref (a_p0 6), .ref (a_p0 7), .ref o_S, .int s_p0_sentSize, .int s_p0_latestFinding, .int s_p0_latestTries, .long s_p0_latestAsked], vI T o_P 12 s_P, vI T (a_p0 3) 6 s_p0_findingTimes, vR T 3 (a_p0 1) 4 s_p0_rowPlaces, vI T (a_p0 2) 4 s_p0_rowSizes]
abbrev r_X6_copy_a (E : vE) (T : Nat → ClassId) (o_p0 : Nat) (a_p0 : Nat → Nat) (o_S : Nat) (o_P : Nat) (s_p0_sentSize : Int32) (s_p0_latestTries : Int32) (s_p0_latestAsked : Int64) (s_P : Nat → Int32) (s_p0_rowPlaces : Nat → Option Nat) (s_p0_rowSizes : Nat → Int32) (Q : Int32 → (Int32) → (Nat → Int32) → (Nat → Int32) → Prop) : Prop := vRi E cX6_copy (fun v (u : (Int32) × (Nat → Int32) × (Nat → Int32)) => Q v u.1 u.2.1 u.2.2) (fun (u : (Int32) × (Nat → Int32) × (Nat → Int32)) => (cl_X6_copy_a T o_p0 a_p0 o_S o_P s_p0_sentSize u.1 s_p0_latestTries s_p0_latestAsked u.2.1 u.2.2 s_p0_rowPlaces s_p0_rowSizes))
set_option maxHeartbeats 4000000 in
set_option maxRecDepth 100000 in
theorem k_X6_copy_74_a {E : vE} {T : Nat → ClassId} {o_p0 : Nat} {a_p0 : Nat → Nat} {o_S : Nat} {o_P : Nat} {s_p0_sentSize : Int32} {s_p0_latestFinding : Int32} {s_p0_latestTries : Int32} {s_p0_latestAsked : Int64} {s_P : Nat → Int32} {s_p0_findingTimes : Nat → Int32} {s_p0_rowPlaces : Nat → Option Nat} {s_p0_rowSizes : Nat → Int32} {Q : Int32 → (Int32) → (Nat → Int32) → (Nat → Int32) → Prop} (X : vX E cX6_copy 6 RX6 wsX6_copy (vT T) (vr 1 68)) (r : r_X6_copy_a E T o_p0 a_p0 o_S o_P s_p0_sentSize s_p0_latestTries s_p0_latestAsked s_P s_p0_rowPlaces s_p0_rowSizes Q) (h : w_X6_copy_74 s_p0_latestFinding s_P s_P s_p0_findingTimes s_p0_rowPlaces s_p0_rowSizes o_P o_P Q) : V E 0 0 74 [(0, .ref o_p0)] [] (cl_X6_copy_a T o_p0 a_p0 o_S o_P s_p0_sentSize s_p0_latestFinding s_p0_latestTries s_p0_latestAsked s_P s_p0_findingTimes s_p0_rowPlaces s_p0_rowSizes) := by
  unfold w_X6_copy_74 at h
  refine v_aload_n X 0 dX6_copy_74 rfl rfl ?_
  refine v_iconst X dX6_copy_75 (v := (2 : Int32)) (by decide) ?_
  refine v_callVi X (As := [.int (2 : Int32)]) (rest := []) 1 0 (c_X6_refused (l := vl E) (D := vD E) (T := T) (o_p0 := o_p0) (a_p0 := a_p0) (o_S := o_S) (s_p0_sentSize := s_p0_sentSize) (s_p0_latestFinding := s_p0_latestFinding) (s_p0_latestTries := s_p0_latestTries) (s_p0_latestAsked := s_p0_latestAsked) (s_p0_findingTimes := s_p0_findingTimes) (x_1 := (2 : Int32)) h) gX6_copy_X6_refused rfl rfl (by decide +kernel) ⟨Nat.zero_le _, Nat.zero_le _⟩ ⟨rfl, rfl, by decide, by decide⟩ (Nat.le_of_ble_eq_true rfl) rfl rfl (wr := [vI T o_P 12 s_P, vR T 3 (a_p0 1) 4 s_p0_rowPlaces, vI T (a_p0 2) 4 s_p0_rowSizes]) [0, 2] [1, 3, 4] rfl rfl rfl rfl (by decide) rfl dX6_copy_76 (fun r_76 u h => ?_)
  obtain ⟨u_76_0, u_76_1⟩ := u
  dsimp only at h
  refine v_ws (ws' := (cl_X6_copy_a T o_p0 a_p0 o_S o_P s_p0_sentSize u_76_0 s_p0_latestTries s_p0_latestAsked s_P u_76_1 s_p0_rowPlaces s_p0_rowSizes)) [3, 0, 4, 1, 2] rfl rfl ?_
  exact r _ _ _ (u_76_0, s_P, u_76_1) _ dX6_copy_79 h rfl
set_option maxHeartbeats 4000000 in
set_option maxRecDepth 100000 in
theorem k_X6_copy_45_a {E : vE} {T : Nat → ClassId} {o_p0 : Nat} {a_p0 : Nat → Nat} {o_S : Nat} {o_P : Nat} {s_p0_sentSize : Int32} {s_p0_latestFinding : Int32} {s_p0_latestTries : Int32} {s_p0_latestAsked : Int64} {s_P : Nat → Int32} {s_p0_findingTimes : Nat → Int32} {s_p0_rowPlaces : Nat → Option Nat} {s_p0_rowSizes : Nat → Int32} {Q : Int32 → (Int32) → (Nat → Int32) → (Nat → Int32) → Prop} (X : vX E cX6_copy 6 RX6 wsX6_copy (vT T) (vr 1 68)) (r : r_X6_copy_a E T o_p0 a_p0 o_S o_P s_p0_sentSize s_p0_latestTries s_p0_latestAsked s_P s_p0_rowPlaces s_p0_rowSizes Q) (h : w_X6_copy_45 s_p0_latestFinding s_P s_P s_p0_findingTimes s_p0_rowPlaces s_p0_rowSizes o_P o_P Q) : V E 0 0 45 [(0, .ref o_p0)] [] (cl_X6_copy_a T o_p0 a_p0 o_S o_P s_p0_sentSize s_p0_latestFinding s_p0_latestTries s_p0_latestAsked s_P s_p0_findingTimes s_p0_rowPlaces s_p0_rowSizes) := by
  unfold w_X6_copy_45 at h
  refine v_aload_n X 0 dX6_copy_45 rfl rfl ?_
  refine v_iconst X dX6_copy_46 (v := (1 : Int32)) (by decide) ?_
  refine v_callVi X (As := [.int (1 : Int32)]) (rest := []) 1 0 (c_X6_refused (l := vl E) (D := vD E) (T := T) (o_p0 := o_p0) (a_p0 := a_p0) (o_S := o_S) (s_p0_sentSize := s_p0_sentSize) (s_p0_latestFinding := s_p0_latestFinding) (s_p0_latestTries := s_p0_latestTries) (s_p0_latestAsked := s_p0_latestAsked) (s_p0_findingTimes := s_p0_findingTimes) (x_1 := (1 : Int32)) h) gX6_copy_X6_refused rfl rfl (by decide +kernel) ⟨Nat.zero_le _, Nat.zero_le _⟩ ⟨rfl, rfl, by decide, by decide⟩ (Nat.le_of_ble_eq_true rfl) rfl rfl (wr := [vI T o_P 12 s_P, vR T 3 (a_p0 1) 4 s_p0_rowPlaces, vI T (a_p0 2) 4 s_p0_rowSizes]) [0, 2] [1, 3, 4] rfl rfl rfl rfl (by decide) rfl dX6_copy_47 (fun r_47 u h => ?_)
  obtain ⟨u_47_0, u_47_1⟩ := u
  dsimp only at h
  refine v_ws (ws' := (cl_X6_copy_a T o_p0 a_p0 o_S o_P s_p0_sentSize u_47_0 s_p0_latestTries s_p0_latestAsked s_P u_47_1 s_p0_rowPlaces s_p0_rowSizes)) [3, 0, 4, 1, 2] rfl rfl ?_
  exact r _ _ _ (u_47_0, s_P, u_47_1) _ dX6_copy_50 h rfl
set_option maxHeartbeats 4000000 in
set_option maxRecDepth 100000 in
theorem k_X6_copy_14_a {E : vE} {T : Nat → ClassId} {o_p0 : Nat} {a_p0 : Nat → Nat} {o_S : Nat} {o_P : Nat} {s_p0_sentSize : Int32} {s_p0_latestFinding : Int32} {s_p0_latestTries : Int32} {s_p0_latestAsked : Int64} {s_P : Nat → Int32} {s_p0_findingTimes : Nat → Int32} {s_p0_rowPlaces : Nat → Option Nat} {s_p0_rowSizes : Nat → Int32} {Q : Int32 → (Int32) → (Nat → Int32) → (Nat → Int32) → Prop} (X : vX E cX6_copy 6 RX6 wsX6_copy (vT T) (vr 1 68)) (r : r_X6_copy_a E T o_p0 a_p0 o_S o_P s_p0_sentSize s_p0_latestTries s_p0_latestAsked s_P s_p0_rowPlaces s_p0_rowSizes Q) (h : w_X6_copy_14 s_p0_latestFinding s_P s_P s_p0_findingTimes s_p0_rowPlaces s_p0_rowSizes o_P o_P Q) : V E 0 0 14 [] [] (cl_X6_copy_a T o_p0 a_p0 o_S o_P s_p0_sentSize s_p0_latestFinding s_p0_latestTries s_p0_latestAsked s_P s_p0_findingTimes s_p0_rowPlaces s_p0_rowSizes) := by
  unfold w_X6_copy_14 at h
  refine v_iconst X dX6_copy_14 (v := (-1 : Int32)) (by decide) ?_
  exact r _ _ _ (s_p0_latestFinding, s_P, s_p0_findingTimes) _ dX6_copy_15 h rfl
set_option maxHeartbeats 4000000 in
set_option maxRecDepth 100000 in
theorem c_X6_copy_a {l : Launch} {D : va_G} {T : Nat → ClassId} {o_p0 : Nat} {a_p0 : Nat → Nat} {o_S : Nat} {o_P : Nat} {s_p0_sentSize : Int32} {s_p0_latestFinding : Int32} {s_p0_latestTries : Int32} {s_p0_latestAsked : Int64} {s_P : Nat → Int32} {s_p0_findingTimes : Nat → Int32} {s_p0_rowPlaces : Nat → Option Nat} {s_p0_rowSizes : Nat → Int32} {x_1 : Int32} {x_2 : Int32} {x_3 : Int32} {x_4 : Int32} {x_5 : Int32} {Q : Int32 → (Int32) → (Nat → Int32) → (Nat → Int32) → Prop} (h : w_X6_copy x_1 x_2 x_3 x_4 x_5 s_p0_latestFinding s_P s_P s_p0_findingTimes s_p0_rowPlaces s_p0_rowSizes o_P o_P Q) : vCi l D (vT T) yX6_copy wsX6_copy (vr 1 68) [.ref o_p0, .int x_1, .int x_2, .int x_3, .int x_4, .int x_5] (cl_X6_copy_a T o_p0 a_p0 o_S o_P s_p0_sentSize s_p0_latestFinding s_p0_latestTries s_p0_latestAsked s_P s_p0_findingTimes s_p0_rowPlaces s_p0_rowSizes) (fun v (u : (Int32) × (Nat → Int32) × (Nat → Int32)) => Q v u.1 u.2.1 u.2.2) (fun (u : (Int32) × (Nat → Int32) × (Nat → Int32)) => (cl_X6_copy_a T o_p0 a_p0 o_S o_P s_p0_sentSize u.1 s_p0_latestTries s_p0_latestAsked u.2.1 u.2.2 s_p0_rowPlaces s_p0_rowSizes)) := by
  refine vC_i (cc := cX6_copy) (nL := 6) (by decide +kernel) rfl ⟨rfl, rfl⟩ (Nat.le_of_ble_eq_true rfl) rfl ?_
  intro E el eD X r
  unfold w_X6_copy at h
  refine v_iload_n X 1 dX6_copy_0 rfl rfl ?_
  refine v_callSi0 X (As := [.int x_1]) (rest := []) 1 (c_X6_isRowNumber (l := vl E) (D := vD E) (T := T) (x_0 := x_1) h) gX6_copy_X6_isRowNumber rfl rfl (by decide +kernel) ⟨Nat.zero_le _, Nat.zero_le _⟩ ⟨rfl, rfl, by decide, by decide⟩ (Nat.le_of_ble_eq_true rfl) rfl dX6_copy_1 (fun r_1 h => ?_)
  refine v_if_eq X (tgt := 14) dX6_copy_4 (by decide) (fun c_4 => ?_) (fun c_4 => ?_)
  · replace h := h.1 c_4
    refine v_lv (lv' := []) [] rfl ?_
    exact k_X6_copy_14_a X r h
  · replace h := h.2 c_4
    refine v_iload_n X 3 dX6_copy_7 rfl rfl ?_
    refine v_callSi0 X (As := [.int x_3]) (rest := []) 1 (c_X6_isRowNumber (l := vl E) (D := vD E) (T := T) (x_0 := x_3) h) gX6_copy_X6_isRowNumber rfl rfl (by decide +kernel) ⟨Nat.zero_le _, Nat.zero_le _⟩ ⟨rfl, rfl, by decide, by decide⟩ (Nat.le_of_ble_eq_true rfl) rfl dX6_copy_8 (fun r_8 h => ?_)
    refine v_if_ne X (tgt := 16) dX6_copy_11 (by decide) (fun c_11 => ?_) (fun c_11 => ?_)
    · replace h := h.1 c_11
      refine v_iload X 5 dX6_copy_16 rfl ?_
      refine v_if_ge X (tgt := 27) dX6_copy_18 (by decide) (fun c_18 => ?_) (fun c_18 => ?_)
      · replace h := h.1 c_18
        refine v_aload_n X 0 dX6_copy_27 rfl rfl ?_
        refine v_get X 0 2 (F := TX6) (N := 13) iX6_copy_X6 rfl rfl (by decide) (List.mem_of_getElem? (i := 1) rfl) rfl rfl dX6_copy_28 ?_
        refine v_iload_n X 1 dX6_copy_31 rfl rfl ?_
        refine v_iald X 4 0 rfl rfl h.1 dX6_copy_32 ?_
        replace h := h.2
        refine v_if_lt X (tgt := 45) dX6_copy_33 (by decide) (fun c_33 => ?_) (fun c_33 => ?_)
        · replace h := h.1 c_33
          refine v_lv (lv' := [(0, .ref o_p0)]) [0] rfl ?_
          exact k_X6_copy_45_a X r h
        · replace h := h.2 c_33
          refine v_aload_n X 0 dX6_copy_36 rfl rfl ?_
          refine v_get X 0 2 (F := TX6) (N := 13) iX6_copy_X6 rfl rfl (by decide) (List.mem_of_getElem? (i := 1) rfl) rfl rfl dX6_copy_37 ?_
          refine v_iload_n X 3 dX6_copy_40 rfl rfl ?_
          refine v_iald X 4 0 rfl rfl h.1 dX6_copy_41 ?_
          replace h := h.2
          refine v_if_ge X (tgt := 51) dX6_copy_42 (by decide) (fun c_42 => ?_) (fun c_42 => ?_)
          · replace h := h.1 c_42
            refine v_aload_n X 0 dX6_copy_51 rfl rfl ?_
            refine v_iload_n X 1 dX6_copy_52 rfl rfl ?_
            refine v_iload_n X 2 dX6_copy_53 rfl rfl ?_
            refine v_iload X 5 dX6_copy_54 rfl ?_
            refine v_callVi X (As := [.int x_1, .int x_2, .int x_5]) (rest := []) 3 0 (c_X6_rowHasPlaces (l := vl E) (D := vD E) (T := T) (o_p0 := o_p0) (a_p0 := a_p0) (o_S := o_S) (s_p0_sentSize := s_p0_sentSize) (s_p0_latestFinding := s_p0_latestFinding) (s_p0_latestTries := s_p0_latestTries) (s_p0_latestAsked := s_p0_latestAsked) (s_p0_rowSizes := s_p0_rowSizes) (x_1 := x_1) (x_2 := x_2) (x_3 := x_5) h) gX6_copy_X6_rowHasPlaces rfl rfl (by decide +kernel) ⟨Nat.zero_le _, Nat.zero_le _⟩ ⟨rfl, rfl, by decide, by decide⟩ (Nat.le_of_ble_eq_true rfl) rfl rfl (wr := [vI T o_P 12 s_P, vI T (a_p0 3) 6 s_p0_findingTimes, vR T 3 (a_p0 1) 4 s_p0_rowPlaces]) [0, 4] [1, 2, 3] rfl rfl rfl rfl (by decide) rfl dX6_copy_56 (fun r_56 u h => ?_)
            refine v_ws (ws' := (cl_X6_copy_a T o_p0 a_p0 o_S o_P s_p0_sentSize s_p0_latestFinding s_p0_latestTries s_p0_latestAsked s_P s_p0_findingTimes s_p0_rowPlaces s_p0_rowSizes)) [3, 0, 1, 2, 4] rfl rfl ?_
            refine v_if_eq X (tgt := 74) dX6_copy_59 (by decide) (fun c_59 => ?_) (fun c_59 => ?_)
            · replace h := h.1 c_59
              refine v_lv (lv' := [(0, .ref o_p0)]) [0] rfl ?_
              exact k_X6_copy_74_a X r h
            · replace h := h.2 c_59
              refine v_aload_n X 0 dX6_copy_62 rfl rfl ?_
              refine v_iload_n X 3 dX6_copy_63 rfl rfl ?_
              refine v_iload X 4 dX6_copy_64 rfl ?_
              refine v_iload X 5 dX6_copy_66 rfl ?_
              refine v_callVi X (As := [.int x_3, .int x_4, .int x_5]) (rest := []) 3 0 (c_X6_rowHasPlaces (l := vl E) (D := vD E) (T := T) (o_p0 := o_p0) (a_p0 := a_p0) (o_S := o_S) (s_p0_sentSize := s_p0_sentSize) (s_p0_latestFinding := s_p0_latestFinding) (s_p0_latestTries := s_p0_latestTries) (s_p0_latestAsked := s_p0_latestAsked) (s_p0_rowSizes := s_p0_rowSizes) (x_1 := x_3) (x_2 := x_4) (x_3 := x_5) h) gX6_copy_X6_rowHasPlaces rfl rfl (by decide +kernel) ⟨Nat.zero_le _, Nat.zero_le _⟩ ⟨rfl, rfl, by decide, by decide⟩ (Nat.le_of_ble_eq_true rfl) rfl rfl (wr := [vI T o_P 12 s_P, vI T (a_p0 3) 6 s_p0_findingTimes, vR T 3 (a_p0 1) 4 s_p0_rowPlaces]) [0, 4] [1, 2, 3] rfl rfl rfl rfl (by decide) rfl dX6_copy_68 (fun r_68 u h => ?_)
              refine v_ws (ws' := (cl_X6_copy_a T o_p0 a_p0 o_S o_P s_p0_sentSize s_p0_latestFinding s_p0_latestTries s_p0_latestAsked s_P s_p0_findingTimes s_p0_rowPlaces s_p0_rowSizes)) [3, 0, 1, 2, 4] rfl rfl ?_
              refine v_if_ne X (tgt := 80) dX6_copy_71 (by decide) (fun c_71 => ?_) (fun c_71 => ?_)
              · replace h := h.1 c_71
                refine v_aload_n X 0 dX6_copy_80 rfl rfl ?_
                refine v_get X 0 1 (F := TX6) (N := 13) iX6_copy_X6 rfl rfl (by decide) (List.mem_of_getElem? (i := 2) rfl) rfl rfl dX6_copy_81 ?_
                refine v_iload_n X 1 dX6_copy_84 rfl rfl ?_
                refine v_aaldA X 3 3 rfl rfl h.1 h.2.1 dX6_copy_85 ?_
                replace h := h.2.2
                refine v_iload_n X 2 dX6_copy_86 rfl rfl ?_
                refine v_aload_n X 0 dX6_copy_87 rfl rfl ?_
                refine v_get X 0 1 (F := TX6) (N := 13) iX6_copy_X6 rfl rfl (by decide) (List.mem_of_getElem? (i := 2) rfl) rfl rfl dX6_copy_88 ?_
                refine v_iload_n X 3 dX6_copy_91 rfl rfl ?_
                refine v_aaldA X 3 3 rfl rfl h.1 h.2.1 dX6_copy_92 ?_
                replace h := h.2.2
                refine v_iload X 4 dX6_copy_93 rfl ?_
                refine v_iload X 5 dX6_copy_95 rfl ?_
                refine v_copyi X (ws' := (cl_X6_copy_a T o_p0 a_p0 o_S o_P s_p0_sentSize s_p0_latestFinding s_p0_latestTries s_p0_latestAsked (va_cpy s_P s_P (x_2).toNatClampNeg (x_4).toNatClampNeg (x_5).toNatClampNeg) s_p0_findingTimes s_p0_rowPlaces s_p0_rowSizes)) 1 1 0 0 (List.mem_of_getElem? (i := 3) rfl) (List.mem_of_getElem? (i := 4) rfl) (List.mem_of_getElem? (i := 5) rfl) (List.mem_of_getElem? (i := 6) rfl) rfl rfl rfl rfl h.1 h.2.1 h.2.2.1 h.2.2.2.1 h.2.2.2.2.1 (by decide) (by decide) rfl dX6_copy_97 ?_
                replace h := h.2.2.2.2.2
                refine v_iconst X dX6_copy_100 (v := (1 : Int32)) (by decide) ?_
                exact r _ _ _ (s_p0_latestFinding, (va_cpy s_P s_P (x_2).toNatClampNeg (x_4).toNatClampNeg (x_5).toNatClampNeg), s_p0_findingTimes) _ dX6_copy_101 h rfl
              · replace h := h.2 c_71
                refine v_lv (lv' := [(0, .ref o_p0)]) [0] rfl ?_
                exact k_X6_copy_74_a X r h
          · replace h := h.2 c_42
            refine v_lv (lv' := [(0, .ref o_p0)]) [0] rfl ?_
            exact k_X6_copy_45_a X r h
      · replace h := h.2 c_18
        refine v_aload_n X 0 dX6_copy_21 rfl rfl ?_
        refine v_iconst X dX6_copy_22 (v := (5 : Int32)) (by decide) ?_
        refine v_callVi X (As := [.int (5 : Int32)]) (rest := []) 1 0 (c_X6_refused (l := vl E) (D := vD E) (T := T) (o_p0 := o_p0) (a_p0 := a_p0) (o_S := o_S) (s_p0_sentSize := s_p0_sentSize) (s_p0_latestFinding := s_p0_latestFinding) (s_p0_latestTries := s_p0_latestTries) (s_p0_latestAsked := s_p0_latestAsked) (s_p0_findingTimes := s_p0_findingTimes) (x_1 := (5 : Int32)) h) gX6_copy_X6_refused rfl rfl (by decide +kernel) ⟨Nat.zero_le _, Nat.zero_le _⟩ ⟨rfl, rfl, by decide, by decide⟩ (Nat.le_of_ble_eq_true rfl) rfl rfl (wr := [vI T o_P 12 s_P, vR T 3 (a_p0 1) 4 s_p0_rowPlaces, vI T (a_p0 2) 4 s_p0_rowSizes]) [0, 2] [1, 3, 4] rfl rfl rfl rfl (by decide) rfl dX6_copy_23 (fun r_23 u h => ?_)
        obtain ⟨u_23_0, u_23_1⟩ := u
        dsimp only at h
        refine v_ws (ws' := (cl_X6_copy_a T o_p0 a_p0 o_S o_P s_p0_sentSize u_23_0 s_p0_latestTries s_p0_latestAsked s_P u_23_1 s_p0_rowPlaces s_p0_rowSizes)) [3, 0, 4, 1, 2] rfl rfl ?_
        exact r _ _ _ (u_23_0, s_P, u_23_1) _ dX6_copy_26 h rfl
    · replace h := h.2 c_11
      refine v_lv (lv' := []) [] rfl ?_
      exact k_X6_copy_14_a X r h
-- X6_asked
abbrev cl_X6_asked (T : Nat → ClassId) (o_p0 : Nat) (a_p0 : Nat → Nat) (o_S : Nat) (s_p0_sentSize : Int32) (s_p0_latestFinding : Int32) (s_p0_latestTries : Int32) (s_p0_latestAsked : Int64) : va_W := [vO o_p0 3 [.ref (a_p0 0), .ref (a_p0 1), .ref (a_p0 2), .ref (a_p0 3), .ref (a_p0 4), .ref (a_p0 5), .ref (a_p0 6), .ref (a_p0 7), .ref o_S, .int s_p0_sentSize, .int s_p0_latestFinding, .int s_p0_latestTries, .long s_p0_latestAsked]]
abbrev r_X6_asked (E : vE) (T : Nat → ClassId) (o_p0 : Nat) (a_p0 : Nat → Nat) (o_S : Nat) (s_p0_sentSize : Int32) (s_p0_latestFinding : Int32) (s_p0_latestTries : Int32) (s_p0_latestAsked : Int64) (Q : Int64 → Prop) : Prop := vRl E cX6_asked (fun v (u : Unit) => Q v) (fun (u : Unit) => (cl_X6_asked T o_p0 a_p0 o_S s_p0_sentSize s_p0_latestFinding s_p0_latestTries s_p0_latestAsked))
def w_X6_asked (s_p0_latestAsked : Int64) (Q : Int64 → Prop) : Prop := (Q s_p0_latestAsked)
-- X6_asked
theorem iX6_asked_X6 : ∀ w ∈ wsX60, w ∈ wsX6_asked := by decide +kernel
set_option maxHeartbeats 4000000 in
set_option maxRecDepth 100000 in
theorem c_X6_asked {l : Launch} {D : va_G} {T : Nat → ClassId} {o_p0 : Nat} {a_p0 : Nat → Nat} {o_S : Nat} {s_p0_sentSize : Int32} {s_p0_latestFinding : Int32} {s_p0_latestTries : Int32} {s_p0_latestAsked : Int64} {Q : Int64 → Prop} (h : w_X6_asked s_p0_latestAsked Q) : vCl l D (vT T) yX6_asked wsX6_asked (vr 0 0) [.ref o_p0] (cl_X6_asked T o_p0 a_p0 o_S s_p0_sentSize s_p0_latestFinding s_p0_latestTries s_p0_latestAsked) (fun v (u : Unit) => Q v) (fun (u : Unit) => (cl_X6_asked T o_p0 a_p0 o_S s_p0_sentSize s_p0_latestFinding s_p0_latestTries s_p0_latestAsked)) := by
  refine vC_l (cc := cX6_asked) (nL := 1) (by decide +kernel) rfl ⟨rfl, rfl⟩ (Nat.le_of_ble_eq_true rfl) rfl ?_
  intro E el eD X r
  unfold w_X6_asked at h
  refine v_aload_n X 0 dX6_asked_0 rfl rfl ?_
  refine v_get X 0 12 (F := TX6) (N := 13) iX6_asked_X6 rfl rfl (by decide) (List.mem_of_getElem? (i := 1) rfl) rfl rfl dX6_asked_1 ?_
  exact r _ _ _ () _ dX6_asked_4 h rfl
-- X6_count
abbrev cl_X6_count (T : Nat → ClassId) (o_p0 : Nat) (a_p0 : Nat → Nat) (o_S : Nat) (o_W0 : Nat) (a_W0 : Nat → Nat) (o_W1 : Nat) (a_W1 : Nat → Nat) (o_W2 : Nat) (a_W2 : Nat → Nat) (o_W3 : Nat) (a_W3 : Nat → Nat) (o_W4 : Nat) (a_W4 : Nat → Nat) (o_W5 : Nat) (a_W5 : Nat → Nat) (s_p0_sentSize : Int32) (s_p0_latestFinding : Int32) (s_p0_latestTries : Int32) (s_p0_latestAsked : Int64) (s_W0_there : Int32) (s_W0_kind : Int32) (s_W0_tag : Int32) (s_W0_size : Int32) (s_W0_lineCount : Int32) (s_W1_there : Int32) (s_W1_kind : Int32) (s_W1_tag : Int32) (s_W1_size : Int32) (s_W1_lineCount : Int32) (s_W2_there : Int32) (s_W2_kind : Int32) (s_W2_tag : Int32) (s_W2_size : Int32) (s_W2_lineCount : Int32) (s_W3_there : Int32) (s_W3_kind : Int32) (s_W3_tag : Int32) (s_W3_size : Int32) (s_W3_lineCount : Int32) (s_W4_there : Int32) (s_W4_kind : Int32) (s_W4_tag : Int32) (s_W4_size : Int32) (s_W4_lineCount : Int32) (s_W5_there : Int32) (s_W5_kind : Int32) (s_W5_tag : Int32) (s_W5_size : Int32) (s_W5_lineCount : Int32) (s_p0_rowSizes : Nat → Int32) (s_p0_worlds : Nat → Option Nat) : va_W := [vO o_p0 3 [.ref (a_p0 0), .ref (a_p0 1), .ref (a_p0 2), .ref (a_p0 3), .ref (a_p0 4), .ref (a_p0 5), .ref (a_p0 6), .ref (a_p0 7), .ref o_S, .int s_p0_sentSize, .int s_p0_latestFinding, .int s_p0_latestTries, .long s_p0_latestAsked], vO o_W0 2 [.ref (a_W0 0), .ref (a_W0 1), .ref (a_W0 2), .int s_W0_there, .int s_W0_kind, .int s_W0_tag, .int s_W0_size, .int s_W0_lineCount], vO o_W1 2 [.ref (a_W1 0), .ref (a_W1 1), .ref (a_W1 2), .int s_W1_there, .int s_W1_kind, .int s_W1_tag, .int s_W1_size, .int s_W1_lineCount], vO o_W2 2 [.ref (a_W2 0), .ref (a_W2 1), .ref (a_W2 2), .int s_W2_there, .int s_W2_kind, .int s_W2_tag, .int s_W2_size, .int s_W2_lineCount], vO o_W3 2 [.ref (a_W3 0), .ref (a_W3 1), .ref (a_W3 2), .int s_W3_there, .int s_W3_kind, .int s_W3_tag, .int s_W3_size, .int s_W3_lineCount], vO o_W4 2 [.ref (a_W4 0), .ref (a_W4 1), .ref (a_W4 2), .int s_W4_there, .int s_W4_kind, .int s_W4_tag, .int s_W4_size, .int s_W4_lineCount], vO o_W5 2 [.ref (a_W5 0), .ref (a_W5 1), .ref (a_W5 2), .int s_W5_there, .int s_W5_kind, .int s_W5_tag, .int s_W5_size, .int s_W5_lineCount], vI T (a_p0 2) 4 s_p0_rowSizes, vR T 2 (a_p0 0) 6 s_p0_worlds]
abbrev r_X6_count (E : vE) (T : Nat → ClassId) (o_p0 : Nat) (a_p0 : Nat → Nat) (o_S : Nat) (o_W0 : Nat) (a_W0 : Nat → Nat) (o_W1 : Nat) (a_W1 : Nat → Nat) (o_W2 : Nat) (a_W2 : Nat → Nat) (o_W3 : Nat) (a_W3 : Nat → Nat) (o_W4 : Nat) (a_W4 : Nat → Nat) (o_W5 : Nat) (a_W5 : Nat → Nat) (s_p0_sentSize : Int32) (s_p0_latestFinding : Int32) (s_p0_latestTries : Int32) (s_p0_latestAsked : Int64) (s_W0_there : Int32) (s_W0_kind : Int32) (s_W0_tag : Int32) (s_W0_size : Int32) (s_W0_lineCount : Int32) (s_W1_there : Int32) (s_W1_kind : Int32) (s_W1_tag : Int32) (s_W1_size : Int32) (s_W1_lineCount : Int32) (s_W2_there : Int32) (s_W2_kind : Int32) (s_W2_tag : Int32) (s_W2_size : Int32) (s_W2_lineCount : Int32) (s_W3_there : Int32) (s_W3_kind : Int32) (s_W3_tag : Int32) (s_W3_size : Int32) (s_W3_lineCount : Int32) (s_W4_there : Int32) (s_W4_kind : Int32) (s_W4_tag : Int32) (s_W4_size : Int32) (s_W4_lineCount : Int32) (s_W5_there : Int32) (s_W5_kind : Int32) (s_W5_tag : Int32) (s_W5_size : Int32) (s_W5_lineCount : Int32) (s_p0_rowSizes : Nat → Int32) (s_p0_worlds : Nat → Option Nat) (Q : Int32 → Prop) : Prop := vRi E cX6_count (fun v (u : Unit) => Q v) (fun (u : Unit) => (cl_X6_count T o_p0 a_p0 o_S o_W0 a_W0 o_W1 a_W1 o_W2 a_W2 o_W3 a_W3 o_W4 a_W4 o_W5 a_W5 s_p0_sentSize s_p0_latestFinding s_p0_latestTries s_p0_latestAsked s_W0_there s_W0_kind s_W0_tag s_W0_size s_W0_lineCount s_W1_there s_W1_kind s_W1_tag s_W1_size s_W1_lineCount s_W2_there s_W2_kind s_W2_tag s_W2_size s_W2_lineCount s_W3_there s_W3_kind s_W3_tag s_W3_size s_W3_lineCount s_W4_there s_W4_kind s_W4_tag s_W4_size s_W4_lineCount s_W5_there s_W5_kind s_W5_tag s_W5_size s_W5_lineCount s_p0_rowSizes s_p0_worlds))
def w_X6_count_107 (x_1 : Int32) (x_2 : Int32) (x_3 : Int32) (s_W0_there : Int32) (s_W0_size : Int32) (s_W0_lineCount : Int32) (s_W1_there : Int32) (s_W1_size : Int32) (s_W1_lineCount : Int32) (s_W2_there : Int32) (s_W2_size : Int32) (s_W2_lineCount : Int32) (s_W3_there : Int32) (s_W3_size : Int32) (s_W3_lineCount : Int32) (s_W4_there : Int32) (s_W4_size : Int32) (s_W4_lineCount : Int32) (s_W5_there : Int32) (s_W5_size : Int32) (s_W5_lineCount : Int32) (s_p0_rowSizes : Nat → Int32) (s_p0_worlds : Nat → Option Nat) (o_W0 : Nat) (o_W1 : Nat) (o_W2 : Nat) (o_W3 : Nat) (o_W4 : Nat) (o_W5 : Nat) (K_52 : (Int32) → (Int32) → Prop) (Q : Int32 → Prop) : Prop := (K_52 x_2 (x_3 + (1 : Int32)))
def w_X6_count_105 (x_1 : Int32) (x_3 : Int32) (t_0 : Int32) (t_1 : Int32) (s_W0_there : Int32) (s_W0_size : Int32) (s_W0_lineCount : Int32) (s_W1_there : Int32) (s_W1_size : Int32) (s_W1_lineCount : Int32) (s_W2_there : Int32) (s_W2_size : Int32) (s_W2_lineCount : Int32) (s_W3_there : Int32) (s_W3_size : Int32) (s_W3_lineCount : Int32) (s_W4_there : Int32) (s_W4_size : Int32) (s_W4_lineCount : Int32) (s_W5_there : Int32) (s_W5_size : Int32) (s_W5_lineCount : Int32) (s_p0_rowSizes : Nat → Int32) (s_p0_worlds : Nat → Option Nat) (o_W0 : Nat) (o_W1 : Nat) (o_W2 : Nat) (o_W3 : Nat) (o_W4 : Nat) (o_W5 : Nat) (K_52 : (Int32) → (Int32) → Prop) (Q : Int32 → Prop) : Prop := (w_X6_count_107 x_1 (t_0 + t_1) x_3 s_W0_there s_W0_size s_W0_lineCount s_W1_there s_W1_size s_W1_lineCount s_W2_there s_W2_size s_W2_lineCount s_W3_there s_W3_size s_W3_lineCount s_W4_there s_W4_size s_W4_lineCount s_W5_there s_W5_size s_W5_lineCount s_p0_rowSizes s_p0_worlds o_W0 o_W1 o_W2 o_W3 o_W4 o_W5 K_52 Q)
def w_X6_count_52s (x_1 : Int32) (s_W0_there : Int32) (s_W0_size : Int32) (s_W0_lineCount : Int32) (s_W1_there : Int32) (s_W1_size : Int32) (s_W1_lineCount : Int32) (s_W2_there : Int32) (s_W2_size : Int32) (s_W2_lineCount : Int32) (s_W3_there : Int32) (s_W3_size : Int32) (s_W3_lineCount : Int32) (s_W4_there : Int32) (s_W4_size : Int32) (s_W4_lineCount : Int32) (s_W5_there : Int32) (s_W5_size : Int32) (s_W5_lineCount : Int32) (s_p0_rowSizes : Nat → Int32) (s_p0_worlds : Nat → Option Nat) (o_W0 : Nat) (o_W1 : Nat) (o_W2 : Nat) (o_W3 : Nat) (o_W4 : Nat) (o_W5 : Nat) (Q : Int32 → Prop) (K_52 : (Int32) → (Int32) → Prop) (x_2 : Int32) (x_3 : Int32) : Prop := (((6 : Int32) ≤ x_3 → (Q x_2)) ∧ (¬ (6 : Int32) ≤ x_3 → (vp_in x_3 6 ∧ (x_3 = 0 → s_p0_worlds (x_3).toNatClampNeg = some o_W0 ∧ ((s_W0_there = 0 → (w_X6_count_107 x_1 x_2 x_3 s_W0_there s_W0_size s_W0_lineCount s_W1_there s_W1_size s_W1_lineCount s_W2_there s_W2_size s_W2_lineCount s_W3_there s_W3_size s_W3_lineCount s_W4_there s_W4_size s_W4_lineCount s_W5_there s_W5_size s_W5_lineCount s_p0_rowSizes s_p0_worlds o_W0 o_W1 o_W2 o_W3 o_W4 o_W5 K_52 Q)) ∧ (¬ s_W0_there = 0 → ((¬ x_1 = 0 → ((¬ x_1 = (1 : Int32) → (vp_in x_3 6 ∧ s_p0_worlds (x_3).toNatClampNeg = some o_W0 ∧ (w_X6_count_105 x_1 x_3 x_2 s_W0_lineCount s_W0_there s_W0_size s_W0_lineCount s_W1_there s_W1_size s_W1_lineCount s_W2_there s_W2_size s_W2_lineCount s_W3_there s_W3_size s_W3_lineCount s_W4_there s_W4_size s_W4_lineCount s_W5_there s_W5_size s_W5_lineCount s_p0_rowSizes s_p0_worlds o_W0 o_W1 o_W2 o_W3 o_W4 o_W5 K_52 Q))) ∧ (x_1 = (1 : Int32) → (vp_in x_3 6 ∧ s_p0_worlds (x_3).toNatClampNeg = some o_W0 ∧ (w_X6_count_105 x_1 x_3 x_2 s_W0_size s_W0_there s_W0_size s_W0_lineCount s_W1_there s_W1_size s_W1_lineCount s_W2_there s_W2_size s_W2_lineCount s_W3_there s_W3_size s_W3_lineCount s_W4_there s_W4_size s_W4_lineCount s_W5_there s_W5_size s_W5_lineCount s_p0_rowSizes s_p0_worlds o_W0 o_W1 o_W2 o_W3 o_W4 o_W5 K_52 Q))))) ∧ (x_1 = 0 → (w_X6_count_105 x_1 x_3 x_2 (1 : Int32) s_W0_there s_W0_size s_W0_lineCount s_W1_there s_W1_size s_W1_lineCount s_W2_there s_W2_size s_W2_lineCount s_W3_there s_W3_size s_W3_lineCount s_W4_there s_W4_size s_W4_lineCount s_W5_there s_W5_size s_W5_lineCount s_p0_rowSizes s_p0_worlds o_W0 o_W1 o_W2 o_W3 o_W4 o_W5 K_52 Q)))))) ∧ (x_3 = 1 → s_p0_worlds (x_3).toNatClampNeg = some o_W1 ∧ ((s_W1_there = 0 → (w_X6_count_107 x_1 x_2 x_3 s_W0_there s_W0_size s_W0_lineCount s_W1_there s_W1_size s_W1_lineCount s_W2_there s_W2_size s_W2_lineCount s_W3_there s_W3_size s_W3_lineCount s_W4_there s_W4_size s_W4_lineCount s_W5_there s_W5_size s_W5_lineCount s_p0_rowSizes s_p0_worlds o_W0 o_W1 o_W2 o_W3 o_W4 o_W5 K_52 Q)) ∧ (¬ s_W1_there = 0 → ((¬ x_1 = 0 → ((¬ x_1 = (1 : Int32) → (vp_in x_3 6 ∧ s_p0_worlds (x_3).toNatClampNeg = some o_W1 ∧ (w_X6_count_105 x_1 x_3 x_2 s_W1_lineCount s_W0_there s_W0_size s_W0_lineCount s_W1_there s_W1_size s_W1_lineCount s_W2_there s_W2_size s_W2_lineCount s_W3_there s_W3_size s_W3_lineCount s_W4_there s_W4_size s_W4_lineCount s_W5_there s_W5_size s_W5_lineCount s_p0_rowSizes s_p0_worlds o_W0 o_W1 o_W2 o_W3 o_W4 o_W5 K_52 Q))) ∧ (x_1 = (1 : Int32) → (vp_in x_3 6 ∧ s_p0_worlds (x_3).toNatClampNeg = some o_W1 ∧ (w_X6_count_105 x_1 x_3 x_2 s_W1_size s_W0_there s_W0_size s_W0_lineCount s_W1_there s_W1_size s_W1_lineCount s_W2_there s_W2_size s_W2_lineCount s_W3_there s_W3_size s_W3_lineCount s_W4_there s_W4_size s_W4_lineCount s_W5_there s_W5_size s_W5_lineCount s_p0_rowSizes s_p0_worlds o_W0 o_W1 o_W2 o_W3 o_W4 o_W5 K_52 Q))))) ∧ (x_1 = 0 → (w_X6_count_105 x_1 x_3 x_2 (1 : Int32) s_W0_there s_W0_size s_W0_lineCount s_W1_there s_W1_size s_W1_lineCount s_W2_there s_W2_size s_W2_lineCount s_W3_there s_W3_size s_W3_lineCount s_W4_there s_W4_size s_W4_lineCount s_W5_there s_W5_size s_W5_lineCount s_p0_rowSizes s_p0_worlds o_W0 o_W1 o_W2 o_W3 o_W4 o_W5 K_52 Q)))))) ∧ (x_3 = 2 → s_p0_worlds (x_3).toNatClampNeg = some o_W2 ∧ ((s_W2_there = 0 → (w_X6_count_107 x_1 x_2 x_3 s_W0_there s_W0_size s_W0_lineCount s_W1_there s_W1_size s_W1_lineCount s_W2_there s_W2_size s_W2_lineCount s_W3_there s_W3_size s_W3_lineCount s_W4_there s_W4_size s_W4_lineCount s_W5_there s_W5_size s_W5_lineCount s_p0_rowSizes s_p0_worlds o_W0 o_W1 o_W2 o_W3 o_W4 o_W5 K_52 Q)) ∧ (¬ s_W2_there = 0 → ((¬ x_1 = 0 → ((¬ x_1 = (1 : Int32) → (vp_in x_3 6 ∧ s_p0_worlds (x_3).toNatClampNeg = some o_W2 ∧ (w_X6_count_105 x_1 x_3 x_2 s_W2_lineCount s_W0_there s_W0_size s_W0_lineCount s_W1_there s_W1_size s_W1_lineCount s_W2_there s_W2_size s_W2_lineCount s_W3_there s_W3_size s_W3_lineCount s_W4_there s_W4_size s_W4_lineCount s_W5_there s_W5_size s_W5_lineCount s_p0_rowSizes s_p0_worlds o_W0 o_W1 o_W2 o_W3 o_W4 o_W5 K_52 Q))) ∧ (x_1 = (1 : Int32) → (vp_in x_3 6 ∧ s_p0_worlds (x_3).toNatClampNeg = some o_W2 ∧ (w_X6_count_105 x_1 x_3 x_2 s_W2_size s_W0_there s_W0_size s_W0_lineCount s_W1_there s_W1_size s_W1_lineCount s_W2_there s_W2_size s_W2_lineCount s_W3_there s_W3_size s_W3_lineCount s_W4_there s_W4_size s_W4_lineCount s_W5_there s_W5_size s_W5_lineCount s_p0_rowSizes s_p0_worlds o_W0 o_W1 o_W2 o_W3 o_W4 o_W5 K_52 Q))))) ∧ (x_1 = 0 → (w_X6_count_105 x_1 x_3 x_2 (1 : Int32) s_W0_there s_W0_size s_W0_lineCount s_W1_there s_W1_size s_W1_lineCount s_W2_there s_W2_size s_W2_lineCount s_W3_there s_W3_size s_W3_lineCount s_W4_there s_W4_size s_W4_lineCount s_W5_there s_W5_size s_W5_lineCount s_p0_rowSizes s_p0_worlds o_W0 o_W1 o_W2 o_W3 o_W4 o_W5 K_52 Q)))))) ∧ (x_3 = 3 → s_p0_worlds (x_3).toNatClampNeg = some o_W3 ∧ ((s_W3_there = 0 → (w_X6_count_107 x_1 x_2 x_3 s_W0_there s_W0_size s_W0_lineCount s_W1_there s_W1_size s_W1_lineCount s_W2_there s_W2_size s_W2_lineCount s_W3_there s_W3_size s_W3_lineCount s_W4_there s_W4_size s_W4_lineCount s_W5_there s_W5_size s_W5_lineCount s_p0_rowSizes s_p0_worlds o_W0 o_W1 o_W2 o_W3 o_W4 o_W5 K_52 Q)) ∧ (¬ s_W3_there = 0 → ((¬ x_1 = 0 → ((¬ x_1 = (1 : Int32) → (vp_in x_3 6 ∧ s_p0_worlds (x_3).toNatClampNeg = some o_W3 ∧ (w_X6_count_105 x_1 x_3 x_2 s_W3_lineCount s_W0_there s_W0_size s_W0_lineCount s_W1_there s_W1_size s_W1_lineCount s_W2_there s_W2_size s_W2_lineCount s_W3_there s_W3_size s_W3_lineCount s_W4_there s_W4_size s_W4_lineCount s_W5_there s_W5_size s_W5_lineCount s_p0_rowSizes s_p0_worlds o_W0 o_W1 o_W2 o_W3 o_W4 o_W5 K_52 Q))) ∧ (x_1 = (1 : Int32) → (vp_in x_3 6 ∧ s_p0_worlds (x_3).toNatClampNeg = some o_W3 ∧ (w_X6_count_105 x_1 x_3 x_2 s_W3_size s_W0_there s_W0_size s_W0_lineCount s_W1_there s_W1_size s_W1_lineCount s_W2_there s_W2_size s_W2_lineCount s_W3_there s_W3_size s_W3_lineCount s_W4_there s_W4_size s_W4_lineCount s_W5_there s_W5_size s_W5_lineCount s_p0_rowSizes s_p0_worlds o_W0 o_W1 o_W2 o_W3 o_W4 o_W5 K_52 Q))))) ∧ (x_1 = 0 → (w_X6_count_105 x_1 x_3 x_2 (1 : Int32) s_W0_there s_W0_size s_W0_lineCount s_W1_there s_W1_size s_W1_lineCount s_W2_there s_W2_size s_W2_lineCount s_W3_there s_W3_size s_W3_lineCount s_W4_there s_W4_size s_W4_lineCount s_W5_there s_W5_size s_W5_lineCount s_p0_rowSizes s_p0_worlds o_W0 o_W1 o_W2 o_W3 o_W4 o_W5 K_52 Q)))))) ∧ (x_3 = 4 → s_p0_worlds (x_3).toNatClampNeg = some o_W4 ∧ ((s_W4_there = 0 → (w_X6_count_107 x_1 x_2 x_3 s_W0_there s_W0_size s_W0_lineCount s_W1_there s_W1_size s_W1_lineCount s_W2_there s_W2_size s_W2_lineCount s_W3_there s_W3_size s_W3_lineCount s_W4_there s_W4_size s_W4_lineCount s_W5_there s_W5_size s_W5_lineCount s_p0_rowSizes s_p0_worlds o_W0 o_W1 o_W2 o_W3 o_W4 o_W5 K_52 Q)) ∧ (¬ s_W4_there = 0 → ((¬ x_1 = 0 → ((¬ x_1 = (1 : Int32) → (vp_in x_3 6 ∧ s_p0_worlds (x_3).toNatClampNeg = some o_W4 ∧ (w_X6_count_105 x_1 x_3 x_2 s_W4_lineCount s_W0_there s_W0_size s_W0_lineCount s_W1_there s_W1_size s_W1_lineCount s_W2_there s_W2_size s_W2_lineCount s_W3_there s_W3_size s_W3_lineCount s_W4_there s_W4_size s_W4_lineCount s_W5_there s_W5_size s_W5_lineCount s_p0_rowSizes s_p0_worlds o_W0 o_W1 o_W2 o_W3 o_W4 o_W5 K_52 Q))) ∧ (x_1 = (1 : Int32) → (vp_in x_3 6 ∧ s_p0_worlds (x_3).toNatClampNeg = some o_W4 ∧ (w_X6_count_105 x_1 x_3 x_2 s_W4_size s_W0_there s_W0_size s_W0_lineCount s_W1_there s_W1_size s_W1_lineCount s_W2_there s_W2_size s_W2_lineCount s_W3_there s_W3_size s_W3_lineCount s_W4_there s_W4_size s_W4_lineCount s_W5_there s_W5_size s_W5_lineCount s_p0_rowSizes s_p0_worlds o_W0 o_W1 o_W2 o_W3 o_W4 o_W5 K_52 Q))))) ∧ (x_1 = 0 → (w_X6_count_105 x_1 x_3 x_2 (1 : Int32) s_W0_there s_W0_size s_W0_lineCount s_W1_there s_W1_size s_W1_lineCount s_W2_there s_W2_size s_W2_lineCount s_W3_there s_W3_size s_W3_lineCount s_W4_there s_W4_size s_W4_lineCount s_W5_there s_W5_size s_W5_lineCount s_p0_rowSizes s_p0_worlds o_W0 o_W1 o_W2 o_W3 o_W4 o_W5 K_52 Q)))))) ∧ (x_3 = 5 → s_p0_worlds (x_3).toNatClampNeg = some o_W5 ∧ ((s_W5_there = 0 → (w_X6_count_107 x_1 x_2 x_3 s_W0_there s_W0_size s_W0_lineCount s_W1_there s_W1_size s_W1_lineCount s_W2_there s_W2_size s_W2_lineCount s_W3_there s_W3_size s_W3_lineCount s_W4_there s_W4_size s_W4_lineCount s_W5_there s_W5_size s_W5_lineCount s_p0_rowSizes s_p0_worlds o_W0 o_W1 o_W2 o_W3 o_W4 o_W5 K_52 Q)) ∧ (¬ s_W5_there = 0 → ((¬ x_1 = 0 → ((¬ x_1 = (1 : Int32) → (vp_in x_3 6 ∧ s_p0_worlds (x_3).toNatClampNeg = some o_W5 ∧ (w_X6_count_105 x_1 x_3 x_2 s_W5_lineCount s_W0_there s_W0_size s_W0_lineCount s_W1_there s_W1_size s_W1_lineCount s_W2_there s_W2_size s_W2_lineCount s_W3_there s_W3_size s_W3_lineCount s_W4_there s_W4_size s_W4_lineCount s_W5_there s_W5_size s_W5_lineCount s_p0_rowSizes s_p0_worlds o_W0 o_W1 o_W2 o_W3 o_W4 o_W5 K_52 Q))) ∧ (x_1 = (1 : Int32) → (vp_in x_3 6 ∧ s_p0_worlds (x_3).toNatClampNeg = some o_W5 ∧ (w_X6_count_105 x_1 x_3 x_2 s_W5_size s_W0_there s_W0_size s_W0_lineCount s_W1_there s_W1_size s_W1_lineCount s_W2_there s_W2_size s_W2_lineCount s_W3_there s_W3_size s_W3_lineCount s_W4_there s_W4_size s_W4_lineCount s_W5_there s_W5_size s_W5_lineCount s_p0_rowSizes s_p0_worlds o_W0 o_W1 o_W2 o_W3 o_W4 o_W5 K_52 Q))))) ∧ (x_1 = 0 → (w_X6_count_105 x_1 x_3 x_2 (1 : Int32) s_W0_there s_W0_size s_W0_lineCount s_W1_there s_W1_size s_W1_lineCount s_W2_there s_W2_size s_W2_lineCount s_W3_there s_W3_size s_W3_lineCount s_W4_there s_W4_size s_W4_lineCount s_W5_there s_W5_size s_W5_lineCount s_p0_rowSizes s_p0_worlds o_W0 o_W1 o_W2 o_W3 o_W4 o_W5 K_52 Q)))))))))
def w_X6_count_52 (x_1 : Int32) (s_W0_there : Int32) (s_W0_size : Int32) (s_W0_lineCount : Int32) (s_W1_there : Int32) (s_W1_size : Int32) (s_W1_lineCount : Int32) (s_W2_there : Int32) (s_W2_size : Int32) (s_W2_lineCount : Int32) (s_W3_there : Int32) (s_W3_size : Int32) (s_W3_lineCount : Int32) (s_W4_there : Int32) (s_W4_size : Int32) (s_W4_lineCount : Int32) (s_W5_there : Int32) (s_W5_size : Int32) (s_W5_lineCount : Int32) (s_p0_rowSizes : Nat → Int32) (s_p0_worlds : Nat → Option Nat) (o_W0 : Nat) (o_W1 : Nat) (o_W2 : Nat) (o_W3 : Nat) (o_W4 : Nat) (o_W5 : Nat) (Q : Int32 → Prop) : Nat → (Int32) → (Int32) → Prop
  | 0 => fun _ _ => False
  | n_ + 1 => w_X6_count_52s x_1 s_W0_there s_W0_size s_W0_lineCount s_W1_there s_W1_size s_W1_lineCount s_W2_there s_W2_size s_W2_lineCount s_W3_there s_W3_size s_W3_lineCount s_W4_there s_W4_size s_W4_lineCount s_W5_there s_W5_size s_W5_lineCount s_p0_rowSizes s_p0_worlds o_W0 o_W1 o_W2 o_W3 o_W4 o_W5 Q (w_X6_count_52 x_1 s_W0_there s_W0_size s_W0_lineCount s_W1_there s_W1_size s_W1_lineCount s_W2_there s_W2_size s_W2_lineCount s_W3_there s_W3_size s_W3_lineCount s_W4_there s_W4_size s_W4_lineCount s_W5_there s_W5_size s_W5_lineCount s_p0_rowSizes s_p0_worlds o_W0 o_W1 o_W2 o_W3 o_W4 o_W5 Q n_)
def w_X6_count_40 (x_3 : Int32) (t_0 : Int32) (t_1 : Int32) (s_W0_there : Int32) (s_W0_size : Int32) (s_W0_lineCount : Int32) (s_W1_there : Int32) (s_W1_size : Int32) (s_W1_lineCount : Int32) (s_W2_there : Int32) (s_W2_size : Int32) (s_W2_lineCount : Int32) (s_W3_there : Int32) (s_W3_size : Int32) (s_W3_lineCount : Int32) (s_W4_there : Int32) (s_W4_size : Int32) (s_W4_lineCount : Int32) (s_W5_there : Int32) (s_W5_size : Int32) (s_W5_lineCount : Int32) (s_p0_rowSizes : Nat → Int32) (s_p0_worlds : Nat → Option Nat) (o_W0 : Nat) (o_W1 : Nat) (o_W2 : Nat) (o_W3 : Nat) (o_W4 : Nat) (o_W5 : Nat) (K_20 : (Int32) → (Int32) → Prop) (Q : Int32 → Prop) : Prop := (K_20 (t_0 + t_1) (x_3 + (1 : Int32)))
def w_X6_count_20s (s_W0_there : Int32) (s_W0_size : Int32) (s_W0_lineCount : Int32) (s_W1_there : Int32) (s_W1_size : Int32) (s_W1_lineCount : Int32) (s_W2_there : Int32) (s_W2_size : Int32) (s_W2_lineCount : Int32) (s_W3_there : Int32) (s_W3_size : Int32) (s_W3_lineCount : Int32) (s_W4_there : Int32) (s_W4_size : Int32) (s_W4_lineCount : Int32) (s_W5_there : Int32) (s_W5_size : Int32) (s_W5_lineCount : Int32) (s_p0_rowSizes : Nat → Int32) (s_p0_worlds : Nat → Option Nat) (o_W0 : Nat) (o_W1 : Nat) (o_W2 : Nat) (o_W3 : Nat) (o_W4 : Nat) (o_W5 : Nat) (Q : Int32 → Prop) (K_20 : (Int32) → (Int32) → Prop) (x_2 : Int32) (x_3 : Int32) : Prop := (((4 : Int32) ≤ x_3 → (Q x_2)) ∧ (¬ (4 : Int32) ≤ x_3 → (vp_in x_3 4 ∧ ((0 ≤ (s_p0_rowSizes (x_3).toNatClampNeg) → (w_X6_count_40 x_3 x_2 (1 : Int32) s_W0_there s_W0_size s_W0_lineCount s_W1_there s_W1_size s_W1_lineCount s_W2_there s_W2_size s_W2_lineCount s_W3_there s_W3_size s_W3_lineCount s_W4_there s_W4_size s_W4_lineCount s_W5_there s_W5_size s_W5_lineCount s_p0_rowSizes s_p0_worlds o_W0 o_W1 o_W2 o_W3 o_W4 o_W5 K_20 Q)) ∧ (¬ 0 ≤ (s_p0_rowSizes (x_3).toNatClampNeg) → (w_X6_count_40 x_3 x_2 (0 : Int32) s_W0_there s_W0_size s_W0_lineCount s_W1_there s_W1_size s_W1_lineCount s_W2_there s_W2_size s_W2_lineCount s_W3_there s_W3_size s_W3_lineCount s_W4_there s_W4_size s_W4_lineCount s_W5_there s_W5_size s_W5_lineCount s_p0_rowSizes s_p0_worlds o_W0 o_W1 o_W2 o_W3 o_W4 o_W5 K_20 Q))))))
def w_X6_count_20 (s_W0_there : Int32) (s_W0_size : Int32) (s_W0_lineCount : Int32) (s_W1_there : Int32) (s_W1_size : Int32) (s_W1_lineCount : Int32) (s_W2_there : Int32) (s_W2_size : Int32) (s_W2_lineCount : Int32) (s_W3_there : Int32) (s_W3_size : Int32) (s_W3_lineCount : Int32) (s_W4_there : Int32) (s_W4_size : Int32) (s_W4_lineCount : Int32) (s_W5_there : Int32) (s_W5_size : Int32) (s_W5_lineCount : Int32) (s_p0_rowSizes : Nat → Int32) (s_p0_worlds : Nat → Option Nat) (o_W0 : Nat) (o_W1 : Nat) (o_W2 : Nat) (o_W3 : Nat) (o_W4 : Nat) (o_W5 : Nat) (Q : Int32 → Prop) : Nat → (Int32) → (Int32) → Prop
  | 0 => fun _ _ => False
  | n_ + 1 => w_X6_count_20s s_W0_there s_W0_size s_W0_lineCount s_W1_there s_W1_size s_W1_lineCount s_W2_there s_W2_size s_W2_lineCount s_W3_there s_W3_size s_W3_lineCount s_W4_there s_W4_size s_W4_lineCount s_W5_there s_W5_size s_W5_lineCount s_p0_rowSizes s_p0_worlds o_W0 o_W1 o_W2 o_W3 o_W4 o_W5 Q (w_X6_count_20 s_W0_there s_W0_size s_W0_lineCount s_W1_there s_W1_size s_W1_lineCount s_W2_there s_W2_size s_W2_lineCount s_W3_there s_W3_size s_W3_lineCount s_W4_there s_W4_size s_W4_lineCount s_W5_there s_W5_size s_W5_lineCount s_p0_rowSizes s_p0_worlds o_W0 o_W1 o_W2 o_W3 o_W4 o_W5 Q n_)
def w_X6_count_9 (s_W0_there : Int32) (s_W0_size : Int32) (s_W0_lineCount : Int32) (s_W1_there : Int32) (s_W1_size : Int32) (s_W1_lineCount : Int32) (s_W2_there : Int32) (s_W2_size : Int32) (s_W2_lineCount : Int32) (s_W3_there : Int32) (s_W3_size : Int32) (s_W3_lineCount : Int32) (s_W4_there : Int32) (s_W4_size : Int32) (s_W4_lineCount : Int32) (s_W5_there : Int32) (s_W5_size : Int32) (s_W5_lineCount : Int32) (s_p0_rowSizes : Nat → Int32) (s_p0_worlds : Nat → Option Nat) (o_W0 : Nat) (o_W1 : Nat) (o_W2 : Nat) (o_W3 : Nat) (o_W4 : Nat) (o_W5 : Nat) (Q : Int32 → Prop) : Prop := (Q (-1 : Int32))
def w_X6_count (x_1 : Int32) (s_W0_there : Int32) (s_W0_size : Int32) (s_W0_lineCount : Int32) (s_W1_there : Int32) (s_W1_size : Int32) (s_W1_lineCount : Int32) (s_W2_there : Int32) (s_W2_size : Int32) (s_W2_lineCount : Int32) (s_W3_there : Int32) (s_W3_size : Int32) (s_W3_lineCount : Int32) (s_W4_there : Int32) (s_W4_size : Int32) (s_W4_lineCount : Int32) (s_W5_there : Int32) (s_W5_size : Int32) (s_W5_lineCount : Int32) (s_p0_rowSizes : Nat → Int32) (s_p0_worlds : Nat → Option Nat) (o_W0 : Nat) (o_W1 : Nat) (o_W2 : Nat) (o_W3 : Nat) (o_W4 : Nat) (o_W5 : Nat) (Q : Int32 → Prop) : Prop := ((x_1 < 0 → (w_X6_count_9 s_W0_there s_W0_size s_W0_lineCount s_W1_there s_W1_size s_W1_lineCount s_W2_there s_W2_size s_W2_lineCount s_W3_there s_W3_size s_W3_lineCount s_W4_there s_W4_size s_W4_lineCount s_W5_there s_W5_size s_W5_lineCount s_p0_rowSizes s_p0_worlds o_W0 o_W1 o_W2 o_W3 o_W4 o_W5 Q)) ∧ (¬ x_1 < 0 → ((x_1 ≤ (3 : Int32) → ((¬ x_1 = (3 : Int32) → (∃ n_, w_X6_count_52 x_1 s_W0_there s_W0_size s_W0_lineCount s_W1_there s_W1_size s_W1_lineCount s_W2_there s_W2_size s_W2_lineCount s_W3_there s_W3_size s_W3_lineCount s_W4_there s_W4_size s_W4_lineCount s_W5_there s_W5_size s_W5_lineCount s_p0_rowSizes s_p0_worlds o_W0 o_W1 o_W2 o_W3 o_W4 o_W5 Q n_ (0 : Int32) (0 : Int32))) ∧ (x_1 = (3 : Int32) → (∃ n_, w_X6_count_20 s_W0_there s_W0_size s_W0_lineCount s_W1_there s_W1_size s_W1_lineCount s_W2_there s_W2_size s_W2_lineCount s_W3_there s_W3_size s_W3_lineCount s_W4_there s_W4_size s_W4_lineCount s_W5_there s_W5_size s_W5_lineCount s_p0_rowSizes s_p0_worlds o_W0 o_W1 o_W2 o_W3 o_W4 o_W5 Q n_ (0 : Int32) (0 : Int32))))) ∧ (¬ x_1 ≤ (3 : Int32) → (w_X6_count_9 s_W0_there s_W0_size s_W0_lineCount s_W1_there s_W1_size s_W1_lineCount s_W2_there s_W2_size s_W2_lineCount s_W3_there s_W3_size s_W3_lineCount s_W4_there s_W4_size s_W4_lineCount s_W5_there s_W5_size s_W5_lineCount s_p0_rowSizes s_p0_worlds o_W0 o_W1 o_W2 o_W3 o_W4 o_W5 Q)))))
-- X6_count
theorem iX6_count_X5 : ∀ w ∈ wsX50, w ∈ wsX6_count := by decide +kernel
theorem iX6_count_X6 : ∀ w ∈ wsX60, w ∈ wsX6_count := by decide +kernel
set_option maxHeartbeats 4000000 in
set_option maxRecDepth 100000 in
theorem k_X6_count_107 {E : vE} {T : Nat → ClassId} {o_p0 : Nat} {a_p0 : Nat → Nat} {o_S : Nat} {o_W0 : Nat} {a_W0 : Nat → Nat} {o_W1 : Nat} {a_W1 : Nat → Nat} {o_W2 : Nat} {a_W2 : Nat → Nat} {o_W3 : Nat} {a_W3 : Nat → Nat} {o_W4 : Nat} {a_W4 : Nat → Nat} {o_W5 : Nat} {a_W5 : Nat → Nat} {s_p0_sentSize : Int32} {s_p0_latestFinding : Int32} {s_p0_latestTries : Int32} {s_p0_latestAsked : Int64} {s_W0_there : Int32} {s_W0_kind : Int32} {s_W0_tag : Int32} {s_W0_size : Int32} {s_W0_lineCount : Int32} {s_W1_there : Int32} {s_W1_kind : Int32} {s_W1_tag : Int32} {s_W1_size : Int32} {s_W1_lineCount : Int32} {s_W2_there : Int32} {s_W2_kind : Int32} {s_W2_tag : Int32} {s_W2_size : Int32} {s_W2_lineCount : Int32} {s_W3_there : Int32} {s_W3_kind : Int32} {s_W3_tag : Int32} {s_W3_size : Int32} {s_W3_lineCount : Int32} {s_W4_there : Int32} {s_W4_kind : Int32} {s_W4_tag : Int32} {s_W4_size : Int32} {s_W4_lineCount : Int32} {s_W5_there : Int32} {s_W5_kind : Int32} {s_W5_tag : Int32} {s_W5_size : Int32} {s_W5_lineCount : Int32} {s_p0_rowSizes : Nat → Int32} {s_p0_worlds : Nat → Option Nat} {x_1 : Int32} {x_2 : Int32} {x_3 : Int32} {K_52 : (Int32) → (Int32) → Prop} {Q : Int32 → Prop} (X : vX E cX6_count 4 RX6 wsX6_count (vT T) (vr 0 0)) (r : r_X6_count E T o_p0 a_p0 o_S o_W0 a_W0 o_W1 a_W1 o_W2 a_W2 o_W3 a_W3 o_W4 a_W4 o_W5 a_W5 s_p0_sentSize s_p0_latestFinding s_p0_latestTries s_p0_latestAsked s_W0_there s_W0_kind s_W0_tag s_W0_size s_W0_lineCount s_W1_there s_W1_kind s_W1_tag s_W1_size s_W1_lineCount s_W2_there s_W2_kind s_W2_tag s_W2_size s_W2_lineCount s_W3_there s_W3_kind s_W3_tag s_W3_size s_W3_lineCount s_W4_there s_W4_kind s_W4_tag s_W4_size s_W4_lineCount s_W5_there s_W5_kind s_W5_tag s_W5_size s_W5_lineCount s_p0_rowSizes s_p0_worlds Q) (hK_52 : ∀ (x_2' : Int32) (x_3' : Int32), K_52 x_2' x_3' → V E 0 0 52 [(0, .ref o_p0), (1, .int x_1), (2, .int x_2'), (3, .int x_3')] [] (cl_X6_count T o_p0 a_p0 o_S o_W0 a_W0 o_W1 a_W1 o_W2 a_W2 o_W3 a_W3 o_W4 a_W4 o_W5 a_W5 s_p0_sentSize s_p0_latestFinding s_p0_latestTries s_p0_latestAsked s_W0_there s_W0_kind s_W0_tag s_W0_size s_W0_lineCount s_W1_there s_W1_kind s_W1_tag s_W1_size s_W1_lineCount s_W2_there s_W2_kind s_W2_tag s_W2_size s_W2_lineCount s_W3_there s_W3_kind s_W3_tag s_W3_size s_W3_lineCount s_W4_there s_W4_kind s_W4_tag s_W4_size s_W4_lineCount s_W5_there s_W5_kind s_W5_tag s_W5_size s_W5_lineCount s_p0_rowSizes s_p0_worlds)) (h : w_X6_count_107 x_1 x_2 x_3 s_W0_there s_W0_size s_W0_lineCount s_W1_there s_W1_size s_W1_lineCount s_W2_there s_W2_size s_W2_lineCount s_W3_there s_W3_size s_W3_lineCount s_W4_there s_W4_size s_W4_lineCount s_W5_there s_W5_size s_W5_lineCount s_p0_rowSizes s_p0_worlds o_W0 o_W1 o_W2 o_W3 o_W4 o_W5 K_52 Q) : V E 0 0 107 [(0, .ref o_p0), (1, .int x_1), (2, .int x_2), (3, .int x_3)] [] (cl_X6_count T o_p0 a_p0 o_S o_W0 a_W0 o_W1 a_W1 o_W2 a_W2 o_W3 a_W3 o_W4 a_W4 o_W5 a_W5 s_p0_sentSize s_p0_latestFinding s_p0_latestTries s_p0_latestAsked s_W0_there s_W0_kind s_W0_tag s_W0_size s_W0_lineCount s_W1_there s_W1_kind s_W1_tag s_W1_size s_W1_lineCount s_W2_there s_W2_kind s_W2_tag s_W2_size s_W2_lineCount s_W3_there s_W3_kind s_W3_tag s_W3_size s_W3_lineCount s_W4_there s_W4_kind s_W4_tag s_W4_size s_W4_lineCount s_W5_there s_W5_kind s_W5_tag s_W5_size s_W5_lineCount s_p0_rowSizes s_p0_worlds) := by
  unfold w_X6_count_107 at h
  refine v_iinc X (v := (x_3 + (1 : Int32))) (lv' := [(3, .int (x_3 + (1 : Int32))), (0, .ref o_p0), (1, .int x_1), (2, .int x_2)]) 3 dX6_count_107 rfl rfl (by decide) rfl ?_
  refine v_goto X (tgt := 52) dX6_count_110 (by decide) ?_
  refine v_lv (lv' := [(0, .ref o_p0), (1, .int x_1), (2, .int x_2), (3, .int (x_3 + (1 : Int32)))]) [1, 2, 3, 0] rfl ?_
  exact hK_52 _ _ h
set_option maxHeartbeats 4000000 in
set_option maxRecDepth 100000 in
theorem k_X6_count_105 {E : vE} {T : Nat → ClassId} {o_p0 : Nat} {a_p0 : Nat → Nat} {o_S : Nat} {o_W0 : Nat} {a_W0 : Nat → Nat} {o_W1 : Nat} {a_W1 : Nat → Nat} {o_W2 : Nat} {a_W2 : Nat → Nat} {o_W3 : Nat} {a_W3 : Nat → Nat} {o_W4 : Nat} {a_W4 : Nat → Nat} {o_W5 : Nat} {a_W5 : Nat → Nat} {s_p0_sentSize : Int32} {s_p0_latestFinding : Int32} {s_p0_latestTries : Int32} {s_p0_latestAsked : Int64} {s_W0_there : Int32} {s_W0_kind : Int32} {s_W0_tag : Int32} {s_W0_size : Int32} {s_W0_lineCount : Int32} {s_W1_there : Int32} {s_W1_kind : Int32} {s_W1_tag : Int32} {s_W1_size : Int32} {s_W1_lineCount : Int32} {s_W2_there : Int32} {s_W2_kind : Int32} {s_W2_tag : Int32} {s_W2_size : Int32} {s_W2_lineCount : Int32} {s_W3_there : Int32} {s_W3_kind : Int32} {s_W3_tag : Int32} {s_W3_size : Int32} {s_W3_lineCount : Int32} {s_W4_there : Int32} {s_W4_kind : Int32} {s_W4_tag : Int32} {s_W4_size : Int32} {s_W4_lineCount : Int32} {s_W5_there : Int32} {s_W5_kind : Int32} {s_W5_tag : Int32} {s_W5_size : Int32} {s_W5_lineCount : Int32} {s_p0_rowSizes : Nat → Int32} {s_p0_worlds : Nat → Option Nat} {x_1 : Int32} {x_3 : Int32} {t_0 : Int32} {t_1 : Int32} {K_52 : (Int32) → (Int32) → Prop} {Q : Int32 → Prop} (X : vX E cX6_count 4 RX6 wsX6_count (vT T) (vr 0 0)) (r : r_X6_count E T o_p0 a_p0 o_S o_W0 a_W0 o_W1 a_W1 o_W2 a_W2 o_W3 a_W3 o_W4 a_W4 o_W5 a_W5 s_p0_sentSize s_p0_latestFinding s_p0_latestTries s_p0_latestAsked s_W0_there s_W0_kind s_W0_tag s_W0_size s_W0_lineCount s_W1_there s_W1_kind s_W1_tag s_W1_size s_W1_lineCount s_W2_there s_W2_kind s_W2_tag s_W2_size s_W2_lineCount s_W3_there s_W3_kind s_W3_tag s_W3_size s_W3_lineCount s_W4_there s_W4_kind s_W4_tag s_W4_size s_W4_lineCount s_W5_there s_W5_kind s_W5_tag s_W5_size s_W5_lineCount s_p0_rowSizes s_p0_worlds Q) (hK_52 : ∀ (x_2' : Int32) (x_3' : Int32), K_52 x_2' x_3' → V E 0 0 52 [(0, .ref o_p0), (1, .int x_1), (2, .int x_2'), (3, .int x_3')] [] (cl_X6_count T o_p0 a_p0 o_S o_W0 a_W0 o_W1 a_W1 o_W2 a_W2 o_W3 a_W3 o_W4 a_W4 o_W5 a_W5 s_p0_sentSize s_p0_latestFinding s_p0_latestTries s_p0_latestAsked s_W0_there s_W0_kind s_W0_tag s_W0_size s_W0_lineCount s_W1_there s_W1_kind s_W1_tag s_W1_size s_W1_lineCount s_W2_there s_W2_kind s_W2_tag s_W2_size s_W2_lineCount s_W3_there s_W3_kind s_W3_tag s_W3_size s_W3_lineCount s_W4_there s_W4_kind s_W4_tag s_W4_size s_W4_lineCount s_W5_there s_W5_kind s_W5_tag s_W5_size s_W5_lineCount s_p0_rowSizes s_p0_worlds)) (h : w_X6_count_105 x_1 x_3 t_0 t_1 s_W0_there s_W0_size s_W0_lineCount s_W1_there s_W1_size s_W1_lineCount s_W2_there s_W2_size s_W2_lineCount s_W3_there s_W3_size s_W3_lineCount s_W4_there s_W4_size s_W4_lineCount s_W5_there s_W5_size s_W5_lineCount s_p0_rowSizes s_p0_worlds o_W0 o_W1 o_W2 o_W3 o_W4 o_W5 K_52 Q) : V E 0 0 105 [(0, .ref o_p0), (1, .int x_1), (3, .int x_3)] [.int t_1, .int t_0] (cl_X6_count T o_p0 a_p0 o_S o_W0 a_W0 o_W1 a_W1 o_W2 a_W2 o_W3 a_W3 o_W4 a_W4 o_W5 a_W5 s_p0_sentSize s_p0_latestFinding s_p0_latestTries s_p0_latestAsked s_W0_there s_W0_kind s_W0_tag s_W0_size s_W0_lineCount s_W1_there s_W1_kind s_W1_tag s_W1_size s_W1_lineCount s_W2_there s_W2_kind s_W2_tag s_W2_size s_W2_lineCount s_W3_there s_W3_kind s_W3_tag s_W3_size s_W3_lineCount s_W4_there s_W4_kind s_W4_tag s_W4_size s_W4_lineCount s_W5_there s_W5_kind s_W5_tag s_W5_size s_W5_lineCount s_p0_rowSizes s_p0_worlds) := by
  unfold w_X6_count_105 at h
  refine v_iadd X dX6_count_105 ?_
  refine v_istore_n X (lv' := [(2, .int (t_0 + t_1)), (0, .ref o_p0), (1, .int x_1), (3, .int x_3)]) dX6_count_106 rfl (by decide) rfl ?_
  refine v_lv (lv' := [(0, .ref o_p0), (1, .int x_1), (2, .int (t_0 + t_1)), (3, .int x_3)]) [1, 2, 0, 3] rfl ?_
  exact k_X6_count_107 X r hK_52 h
set_option maxHeartbeats 4000000 in
set_option maxRecDepth 100000 in
theorem k_X6_count_52 {E : vE} {T : Nat → ClassId} {o_p0 : Nat} {a_p0 : Nat → Nat} {o_S : Nat} {o_W0 : Nat} {a_W0 : Nat → Nat} {o_W1 : Nat} {a_W1 : Nat → Nat} {o_W2 : Nat} {a_W2 : Nat → Nat} {o_W3 : Nat} {a_W3 : Nat → Nat} {o_W4 : Nat} {a_W4 : Nat → Nat} {o_W5 : Nat} {a_W5 : Nat → Nat} {s_p0_sentSize : Int32} {s_p0_latestFinding : Int32} {s_p0_latestTries : Int32} {s_p0_latestAsked : Int64} {s_W0_there : Int32} {s_W0_kind : Int32} {s_W0_tag : Int32} {s_W0_size : Int32} {s_W0_lineCount : Int32} {s_W1_there : Int32} {s_W1_kind : Int32} {s_W1_tag : Int32} {s_W1_size : Int32} {s_W1_lineCount : Int32} {s_W2_there : Int32} {s_W2_kind : Int32} {s_W2_tag : Int32} {s_W2_size : Int32} {s_W2_lineCount : Int32} {s_W3_there : Int32} {s_W3_kind : Int32} {s_W3_tag : Int32} {s_W3_size : Int32} {s_W3_lineCount : Int32} {s_W4_there : Int32} {s_W4_kind : Int32} {s_W4_tag : Int32} {s_W4_size : Int32} {s_W4_lineCount : Int32} {s_W5_there : Int32} {s_W5_kind : Int32} {s_W5_tag : Int32} {s_W5_size : Int32} {s_W5_lineCount : Int32} {s_p0_rowSizes : Nat → Int32} {s_p0_worlds : Nat → Option Nat} {x_1 : Int32} {Q : Int32 → Prop} (X : vX E cX6_count 4 RX6 wsX6_count (vT T) (vr 0 0)) (r : r_X6_count E T o_p0 a_p0 o_S o_W0 a_W0 o_W1 a_W1 o_W2 a_W2 o_W3 a_W3 o_W4 a_W4 o_W5 a_W5 s_p0_sentSize s_p0_latestFinding s_p0_latestTries s_p0_latestAsked s_W0_there s_W0_kind s_W0_tag s_W0_size s_W0_lineCount s_W1_there s_W1_kind s_W1_tag s_W1_size s_W1_lineCount s_W2_there s_W2_kind s_W2_tag s_W2_size s_W2_lineCount s_W3_there s_W3_kind s_W3_tag s_W3_size s_W3_lineCount s_W4_there s_W4_kind s_W4_tag s_W4_size s_W4_lineCount s_W5_there s_W5_kind s_W5_tag s_W5_size s_W5_lineCount s_p0_rowSizes s_p0_worlds Q) : ∀ (n_ : Nat) (x_2 : Int32) (x_3 : Int32), w_X6_count_52 x_1 s_W0_there s_W0_size s_W0_lineCount s_W1_there s_W1_size s_W1_lineCount s_W2_there s_W2_size s_W2_lineCount s_W3_there s_W3_size s_W3_lineCount s_W4_there s_W4_size s_W4_lineCount s_W5_there s_W5_size s_W5_lineCount s_p0_rowSizes s_p0_worlds o_W0 o_W1 o_W2 o_W3 o_W4 o_W5 Q n_ x_2 x_3 → V E 0 0 52 [(0, .ref o_p0), (1, .int x_1), (2, .int x_2), (3, .int x_3)] [] (cl_X6_count T o_p0 a_p0 o_S o_W0 a_W0 o_W1 a_W1 o_W2 a_W2 o_W3 a_W3 o_W4 a_W4 o_W5 a_W5 s_p0_sentSize s_p0_latestFinding s_p0_latestTries s_p0_latestAsked s_W0_there s_W0_kind s_W0_tag s_W0_size s_W0_lineCount s_W1_there s_W1_kind s_W1_tag s_W1_size s_W1_lineCount s_W2_there s_W2_kind s_W2_tag s_W2_size s_W2_lineCount s_W3_there s_W3_kind s_W3_tag s_W3_size s_W3_lineCount s_W4_there s_W4_kind s_W4_tag s_W4_size s_W4_lineCount s_W5_there s_W5_kind s_W5_tag s_W5_size s_W5_lineCount s_p0_rowSizes s_p0_worlds) := by
  intro n_
  induction n_ with
  | zero => intro x_2 x_3 h; exact h.elim
  | succ n_ hK_52 =>
    intro x_2 x_3 h
    replace h : w_X6_count_52s x_1 s_W0_there s_W0_size s_W0_lineCount s_W1_there s_W1_size s_W1_lineCount s_W2_there s_W2_size s_W2_lineCount s_W3_there s_W3_size s_W3_lineCount s_W4_there s_W4_size s_W4_lineCount s_W5_there s_W5_size s_W5_lineCount s_p0_rowSizes s_p0_worlds o_W0 o_W1 o_W2 o_W3 o_W4 o_W5 Q (w_X6_count_52 x_1 s_W0_there s_W0_size s_W0_lineCount s_W1_there s_W1_size s_W1_lineCount s_W2_there s_W2_size s_W2_lineCount s_W3_there s_W3_size s_W3_lineCount s_W4_there s_W4_size s_W4_lineCount s_W5_there s_W5_size s_W5_lineCount s_p0_rowSizes s_p0_worlds o_W0 o_W1 o_W2 o_W3 o_W4 o_W5 Q n_) x_2 x_3 := h
    unfold w_X6_count_52s at h
    refine v_iload_n X 3 dX6_count_52 rfl rfl ?_
    refine v_bipush X dX6_count_53 (v := (6 : Int32)) (by decide) ?_
    refine v_icmp_ge X (tgt := 113) dX6_count_55 (by decide) (fun c_55 => ?_) (fun c_55 => ?_)
    · replace h := h.1 c_55
      refine v_iload_n X 2 dX6_count_113 rfl rfl ?_
      exact r _ _ _ () _ dX6_count_114 h rfl
    · replace h := h.2 c_55
      refine v_aload_n X 0 dX6_count_58 rfl rfl ?_
      refine v_get X 0 0 (F := TX6) (N := 13) iX6_count_X6 rfl rfl (by decide) (List.mem_of_getElem? (i := 2) rfl) rfl rfl dX6_count_59 ?_
      refine v_iload_n X 3 dX6_count_62 rfl rfl ?_
      have c_63 := h.1
      replace h := h.2
      have c2_63 := vin_6 c_63
      rcases c2_63 with c3_63 | c3_63 | c3_63 | c3_63 | c3_63 | c3_63
      · replace h := h.1 c3_63
        refine v_aald X 8 2 rfl rfl c_63 h.1 dX6_count_63 ?_
        replace h := h.2
        refine v_getN X 1 3 (F := TX5) (N := 8) iX6_count_X5 rfl rfl (by decide) (List.mem_of_getElem? (i := 23) rfl) rfl rfl dX6_count_64 ?_
        refine v_if_eq X (tgt := 107) dX6_count_67 (by decide) (fun c_67 => ?_) (fun c_67 => ?_)
        · replace h := h.1 c_67
          exact k_X6_count_107 X r hK_52 h
        · replace h := h.2 c_67
          refine v_iload_n X 2 dX6_count_70 rfl rfl ?_
          refine v_iload_n X 1 dX6_count_71 rfl rfl ?_
          refine v_if_ne X (tgt := 79) dX6_count_72 (by decide) (fun c_72 => ?_) (fun c_72 => ?_)
          · replace h := h.1 c_72
            refine v_iload_n X 1 dX6_count_79 rfl rfl ?_
            refine v_iconst X dX6_count_80 (v := (1 : Int32)) (by decide) ?_
            refine v_icmp_ne X (tgt := 96) dX6_count_81 (by decide) (fun c_81 => ?_) (fun c_81 => ?_)
            · replace h := h.1 c_81
              refine v_aload_n X 0 dX6_count_96 rfl rfl ?_
              refine v_get X 0 0 (F := TX6) (N := 13) iX6_count_X6 rfl rfl (by decide) (List.mem_of_getElem? (i := 2) rfl) rfl rfl dX6_count_97 ?_
              refine v_iload_n X 3 dX6_count_100 rfl rfl ?_
              refine v_aald X 8 2 rfl rfl h.1 h.2.1 dX6_count_101 ?_
              replace h := h.2.2
              refine v_getN X 1 7 (F := TX5) (N := 8) iX6_count_X5 rfl rfl (by decide) (List.mem_of_getElem? (i := 33) rfl) rfl rfl dX6_count_102 ?_
              refine v_lv (lv' := [(0, .ref o_p0), (1, .int x_1), (3, .int x_3)]) [0, 1, 3] rfl ?_
              exact k_X6_count_105 X r hK_52 h
            · replace h := h.2 c_81
              refine v_aload_n X 0 dX6_count_84 rfl rfl ?_
              refine v_get X 0 0 (F := TX6) (N := 13) iX6_count_X6 rfl rfl (by decide) (List.mem_of_getElem? (i := 2) rfl) rfl rfl dX6_count_85 ?_
              refine v_iload_n X 3 dX6_count_88 rfl rfl ?_
              refine v_aald X 8 2 rfl rfl h.1 h.2.1 dX6_count_89 ?_
              replace h := h.2.2
              refine v_getN X 1 6 (F := TX5) (N := 8) iX6_count_X5 rfl rfl (by decide) (List.mem_of_getElem? (i := 29) rfl) rfl rfl dX6_count_90 ?_
              refine v_goto X (tgt := 105) dX6_count_93 (by decide) ?_
              refine v_lv (lv' := [(0, .ref o_p0), (1, .int x_1), (3, .int x_3)]) [0, 1, 3] rfl ?_
              exact k_X6_count_105 X r hK_52 h
          · replace h := h.2 c_72
            refine v_iconst X dX6_count_75 (v := (1 : Int32)) (by decide) ?_
            refine v_goto X (tgt := 105) dX6_count_76 (by decide) ?_
            refine v_lv (lv' := [(0, .ref o_p0), (1, .int x_1), (3, .int x_3)]) [0, 1, 3] rfl ?_
            exact k_X6_count_105 X r hK_52 h
      · replace h := h.2.1 c3_63
        refine v_aald X 8 2 rfl rfl c_63 h.1 dX6_count_63 ?_
        replace h := h.2
        refine v_getN X 2 3 (F := TX5) (N := 8) iX6_count_X5 rfl rfl (by decide) (List.mem_of_getElem? (i := 23) rfl) rfl rfl dX6_count_64 ?_
        refine v_if_eq X (tgt := 107) dX6_count_67 (by decide) (fun c_67 => ?_) (fun c_67 => ?_)
        · replace h := h.1 c_67
          exact k_X6_count_107 X r hK_52 h
        · replace h := h.2 c_67
          refine v_iload_n X 2 dX6_count_70 rfl rfl ?_
          refine v_iload_n X 1 dX6_count_71 rfl rfl ?_
          refine v_if_ne X (tgt := 79) dX6_count_72 (by decide) (fun c_72 => ?_) (fun c_72 => ?_)
          · replace h := h.1 c_72
            refine v_iload_n X 1 dX6_count_79 rfl rfl ?_
            refine v_iconst X dX6_count_80 (v := (1 : Int32)) (by decide) ?_
            refine v_icmp_ne X (tgt := 96) dX6_count_81 (by decide) (fun c_81 => ?_) (fun c_81 => ?_)
            · replace h := h.1 c_81
              refine v_aload_n X 0 dX6_count_96 rfl rfl ?_
              refine v_get X 0 0 (F := TX6) (N := 13) iX6_count_X6 rfl rfl (by decide) (List.mem_of_getElem? (i := 2) rfl) rfl rfl dX6_count_97 ?_
              refine v_iload_n X 3 dX6_count_100 rfl rfl ?_
              refine v_aald X 8 2 rfl rfl h.1 h.2.1 dX6_count_101 ?_
              replace h := h.2.2
              refine v_getN X 2 7 (F := TX5) (N := 8) iX6_count_X5 rfl rfl (by decide) (List.mem_of_getElem? (i := 33) rfl) rfl rfl dX6_count_102 ?_
              refine v_lv (lv' := [(0, .ref o_p0), (1, .int x_1), (3, .int x_3)]) [0, 1, 3] rfl ?_
              exact k_X6_count_105 X r hK_52 h
            · replace h := h.2 c_81
              refine v_aload_n X 0 dX6_count_84 rfl rfl ?_
              refine v_get X 0 0 (F := TX6) (N := 13) iX6_count_X6 rfl rfl (by decide) (List.mem_of_getElem? (i := 2) rfl) rfl rfl dX6_count_85 ?_
              refine v_iload_n X 3 dX6_count_88 rfl rfl ?_
              refine v_aald X 8 2 rfl rfl h.1 h.2.1 dX6_count_89 ?_
              replace h := h.2.2
              refine v_getN X 2 6 (F := TX5) (N := 8) iX6_count_X5 rfl rfl (by decide) (List.mem_of_getElem? (i := 29) rfl) rfl rfl dX6_count_90 ?_
              refine v_goto X (tgt := 105) dX6_count_93 (by decide) ?_
              refine v_lv (lv' := [(0, .ref o_p0), (1, .int x_1), (3, .int x_3)]) [0, 1, 3] rfl ?_
              exact k_X6_count_105 X r hK_52 h
          · replace h := h.2 c_72
            refine v_iconst X dX6_count_75 (v := (1 : Int32)) (by decide) ?_
            refine v_goto X (tgt := 105) dX6_count_76 (by decide) ?_
            refine v_lv (lv' := [(0, .ref o_p0), (1, .int x_1), (3, .int x_3)]) [0, 1, 3] rfl ?_
            exact k_X6_count_105 X r hK_52 h
      · replace h := h.2.2.1 c3_63
        refine v_aald X 8 2 rfl rfl c_63 h.1 dX6_count_63 ?_
        replace h := h.2
        refine v_getN X 3 3 (F := TX5) (N := 8) iX6_count_X5 rfl rfl (by decide) (List.mem_of_getElem? (i := 23) rfl) rfl rfl dX6_count_64 ?_
        refine v_if_eq X (tgt := 107) dX6_count_67 (by decide) (fun c_67 => ?_) (fun c_67 => ?_)
        · replace h := h.1 c_67
          exact k_X6_count_107 X r hK_52 h
        · replace h := h.2 c_67
          refine v_iload_n X 2 dX6_count_70 rfl rfl ?_
          refine v_iload_n X 1 dX6_count_71 rfl rfl ?_
          refine v_if_ne X (tgt := 79) dX6_count_72 (by decide) (fun c_72 => ?_) (fun c_72 => ?_)
          · replace h := h.1 c_72
            refine v_iload_n X 1 dX6_count_79 rfl rfl ?_
            refine v_iconst X dX6_count_80 (v := (1 : Int32)) (by decide) ?_
            refine v_icmp_ne X (tgt := 96) dX6_count_81 (by decide) (fun c_81 => ?_) (fun c_81 => ?_)
            · replace h := h.1 c_81
              refine v_aload_n X 0 dX6_count_96 rfl rfl ?_
              refine v_get X 0 0 (F := TX6) (N := 13) iX6_count_X6 rfl rfl (by decide) (List.mem_of_getElem? (i := 2) rfl) rfl rfl dX6_count_97 ?_
              refine v_iload_n X 3 dX6_count_100 rfl rfl ?_
              refine v_aald X 8 2 rfl rfl h.1 h.2.1 dX6_count_101 ?_
              replace h := h.2.2
              refine v_getN X 3 7 (F := TX5) (N := 8) iX6_count_X5 rfl rfl (by decide) (List.mem_of_getElem? (i := 33) rfl) rfl rfl dX6_count_102 ?_
              refine v_lv (lv' := [(0, .ref o_p0), (1, .int x_1), (3, .int x_3)]) [0, 1, 3] rfl ?_
              exact k_X6_count_105 X r hK_52 h
            · replace h := h.2 c_81
              refine v_aload_n X 0 dX6_count_84 rfl rfl ?_
              refine v_get X 0 0 (F := TX6) (N := 13) iX6_count_X6 rfl rfl (by decide) (List.mem_of_getElem? (i := 2) rfl) rfl rfl dX6_count_85 ?_
              refine v_iload_n X 3 dX6_count_88 rfl rfl ?_
              refine v_aald X 8 2 rfl rfl h.1 h.2.1 dX6_count_89 ?_
              replace h := h.2.2
              refine v_getN X 3 6 (F := TX5) (N := 8) iX6_count_X5 rfl rfl (by decide) (List.mem_of_getElem? (i := 29) rfl) rfl rfl dX6_count_90 ?_
              refine v_goto X (tgt := 105) dX6_count_93 (by decide) ?_
              refine v_lv (lv' := [(0, .ref o_p0), (1, .int x_1), (3, .int x_3)]) [0, 1, 3] rfl ?_
              exact k_X6_count_105 X r hK_52 h
          · replace h := h.2 c_72
            refine v_iconst X dX6_count_75 (v := (1 : Int32)) (by decide) ?_
            refine v_goto X (tgt := 105) dX6_count_76 (by decide) ?_
            refine v_lv (lv' := [(0, .ref o_p0), (1, .int x_1), (3, .int x_3)]) [0, 1, 3] rfl ?_
            exact k_X6_count_105 X r hK_52 h
      · replace h := h.2.2.2.1 c3_63
        refine v_aald X 8 2 rfl rfl c_63 h.1 dX6_count_63 ?_
        replace h := h.2
        refine v_getN X 4 3 (F := TX5) (N := 8) iX6_count_X5 rfl rfl (by decide) (List.mem_of_getElem? (i := 23) rfl) rfl rfl dX6_count_64 ?_
        refine v_if_eq X (tgt := 107) dX6_count_67 (by decide) (fun c_67 => ?_) (fun c_67 => ?_)
        · replace h := h.1 c_67
          exact k_X6_count_107 X r hK_52 h
        · replace h := h.2 c_67
          refine v_iload_n X 2 dX6_count_70 rfl rfl ?_
          refine v_iload_n X 1 dX6_count_71 rfl rfl ?_
          refine v_if_ne X (tgt := 79) dX6_count_72 (by decide) (fun c_72 => ?_) (fun c_72 => ?_)
          · replace h := h.1 c_72
            refine v_iload_n X 1 dX6_count_79 rfl rfl ?_
            refine v_iconst X dX6_count_80 (v := (1 : Int32)) (by decide) ?_
            refine v_icmp_ne X (tgt := 96) dX6_count_81 (by decide) (fun c_81 => ?_) (fun c_81 => ?_)
            · replace h := h.1 c_81
              refine v_aload_n X 0 dX6_count_96 rfl rfl ?_
              refine v_get X 0 0 (F := TX6) (N := 13) iX6_count_X6 rfl rfl (by decide) (List.mem_of_getElem? (i := 2) rfl) rfl rfl dX6_count_97 ?_
              refine v_iload_n X 3 dX6_count_100 rfl rfl ?_
              refine v_aald X 8 2 rfl rfl h.1 h.2.1 dX6_count_101 ?_
              replace h := h.2.2
              refine v_getN X 4 7 (F := TX5) (N := 8) iX6_count_X5 rfl rfl (by decide) (List.mem_of_getElem? (i := 33) rfl) rfl rfl dX6_count_102 ?_
              refine v_lv (lv' := [(0, .ref o_p0), (1, .int x_1), (3, .int x_3)]) [0, 1, 3] rfl ?_
              exact k_X6_count_105 X r hK_52 h
            · replace h := h.2 c_81
              refine v_aload_n X 0 dX6_count_84 rfl rfl ?_
              refine v_get X 0 0 (F := TX6) (N := 13) iX6_count_X6 rfl rfl (by decide) (List.mem_of_getElem? (i := 2) rfl) rfl rfl dX6_count_85 ?_
              refine v_iload_n X 3 dX6_count_88 rfl rfl ?_
              refine v_aald X 8 2 rfl rfl h.1 h.2.1 dX6_count_89 ?_
              replace h := h.2.2
              refine v_getN X 4 6 (F := TX5) (N := 8) iX6_count_X5 rfl rfl (by decide) (List.mem_of_getElem? (i := 29) rfl) rfl rfl dX6_count_90 ?_
              refine v_goto X (tgt := 105) dX6_count_93 (by decide) ?_
              refine v_lv (lv' := [(0, .ref o_p0), (1, .int x_1), (3, .int x_3)]) [0, 1, 3] rfl ?_
              exact k_X6_count_105 X r hK_52 h
          · replace h := h.2 c_72
            refine v_iconst X dX6_count_75 (v := (1 : Int32)) (by decide) ?_
            refine v_goto X (tgt := 105) dX6_count_76 (by decide) ?_
            refine v_lv (lv' := [(0, .ref o_p0), (1, .int x_1), (3, .int x_3)]) [0, 1, 3] rfl ?_
            exact k_X6_count_105 X r hK_52 h
      · replace h := h.2.2.2.2.1 c3_63
        refine v_aald X 8 2 rfl rfl c_63 h.1 dX6_count_63 ?_
        replace h := h.2
        refine v_getN X 5 3 (F := TX5) (N := 8) iX6_count_X5 rfl rfl (by decide) (List.mem_of_getElem? (i := 23) rfl) rfl rfl dX6_count_64 ?_
        refine v_if_eq X (tgt := 107) dX6_count_67 (by decide) (fun c_67 => ?_) (fun c_67 => ?_)
        · replace h := h.1 c_67
          exact k_X6_count_107 X r hK_52 h
        · replace h := h.2 c_67
          refine v_iload_n X 2 dX6_count_70 rfl rfl ?_
          refine v_iload_n X 1 dX6_count_71 rfl rfl ?_
          refine v_if_ne X (tgt := 79) dX6_count_72 (by decide) (fun c_72 => ?_) (fun c_72 => ?_)
          · replace h := h.1 c_72
            refine v_iload_n X 1 dX6_count_79 rfl rfl ?_
            refine v_iconst X dX6_count_80 (v := (1 : Int32)) (by decide) ?_
            refine v_icmp_ne X (tgt := 96) dX6_count_81 (by decide) (fun c_81 => ?_) (fun c_81 => ?_)
            · replace h := h.1 c_81
              refine v_aload_n X 0 dX6_count_96 rfl rfl ?_
              refine v_get X 0 0 (F := TX6) (N := 13) iX6_count_X6 rfl rfl (by decide) (List.mem_of_getElem? (i := 2) rfl) rfl rfl dX6_count_97 ?_
              refine v_iload_n X 3 dX6_count_100 rfl rfl ?_
              refine v_aald X 8 2 rfl rfl h.1 h.2.1 dX6_count_101 ?_
              replace h := h.2.2
              refine v_getN X 5 7 (F := TX5) (N := 8) iX6_count_X5 rfl rfl (by decide) (List.mem_of_getElem? (i := 33) rfl) rfl rfl dX6_count_102 ?_
              refine v_lv (lv' := [(0, .ref o_p0), (1, .int x_1), (3, .int x_3)]) [0, 1, 3] rfl ?_
              exact k_X6_count_105 X r hK_52 h
            · replace h := h.2 c_81
              refine v_aload_n X 0 dX6_count_84 rfl rfl ?_
              refine v_get X 0 0 (F := TX6) (N := 13) iX6_count_X6 rfl rfl (by decide) (List.mem_of_getElem? (i := 2) rfl) rfl rfl dX6_count_85 ?_
              refine v_iload_n X 3 dX6_count_88 rfl rfl ?_
              refine v_aald X 8 2 rfl rfl h.1 h.2.1 dX6_count_89 ?_
              replace h := h.2.2
              refine v_getN X 5 6 (F := TX5) (N := 8) iX6_count_X5 rfl rfl (by decide) (List.mem_of_getElem? (i := 29) rfl) rfl rfl dX6_count_90 ?_
              refine v_goto X (tgt := 105) dX6_count_93 (by decide) ?_
              refine v_lv (lv' := [(0, .ref o_p0), (1, .int x_1), (3, .int x_3)]) [0, 1, 3] rfl ?_
              exact k_X6_count_105 X r hK_52 h
          · replace h := h.2 c_72
            refine v_iconst X dX6_count_75 (v := (1 : Int32)) (by decide) ?_
            refine v_goto X (tgt := 105) dX6_count_76 (by decide) ?_
            refine v_lv (lv' := [(0, .ref o_p0), (1, .int x_1), (3, .int x_3)]) [0, 1, 3] rfl ?_
            exact k_X6_count_105 X r hK_52 h
      · replace h := h.2.2.2.2.2 c3_63
        refine v_aald X 8 2 rfl rfl c_63 h.1 dX6_count_63 ?_
        replace h := h.2
        refine v_getN X 6 3 (F := TX5) (N := 8) iX6_count_X5 rfl rfl (by decide) (List.mem_of_getElem? (i := 23) rfl) rfl rfl dX6_count_64 ?_
        refine v_if_eq X (tgt := 107) dX6_count_67 (by decide) (fun c_67 => ?_) (fun c_67 => ?_)
        · replace h := h.1 c_67
          exact k_X6_count_107 X r hK_52 h
        · replace h := h.2 c_67
          refine v_iload_n X 2 dX6_count_70 rfl rfl ?_
          refine v_iload_n X 1 dX6_count_71 rfl rfl ?_
          refine v_if_ne X (tgt := 79) dX6_count_72 (by decide) (fun c_72 => ?_) (fun c_72 => ?_)
          · replace h := h.1 c_72
            refine v_iload_n X 1 dX6_count_79 rfl rfl ?_
            refine v_iconst X dX6_count_80 (v := (1 : Int32)) (by decide) ?_
            refine v_icmp_ne X (tgt := 96) dX6_count_81 (by decide) (fun c_81 => ?_) (fun c_81 => ?_)
            · replace h := h.1 c_81
              refine v_aload_n X 0 dX6_count_96 rfl rfl ?_
              refine v_get X 0 0 (F := TX6) (N := 13) iX6_count_X6 rfl rfl (by decide) (List.mem_of_getElem? (i := 2) rfl) rfl rfl dX6_count_97 ?_
              refine v_iload_n X 3 dX6_count_100 rfl rfl ?_
              refine v_aald X 8 2 rfl rfl h.1 h.2.1 dX6_count_101 ?_
              replace h := h.2.2
              refine v_getN X 6 7 (F := TX5) (N := 8) iX6_count_X5 rfl rfl (by decide) (List.mem_of_getElem? (i := 33) rfl) rfl rfl dX6_count_102 ?_
              refine v_lv (lv' := [(0, .ref o_p0), (1, .int x_1), (3, .int x_3)]) [0, 1, 3] rfl ?_
              exact k_X6_count_105 X r hK_52 h
            · replace h := h.2 c_81
              refine v_aload_n X 0 dX6_count_84 rfl rfl ?_
              refine v_get X 0 0 (F := TX6) (N := 13) iX6_count_X6 rfl rfl (by decide) (List.mem_of_getElem? (i := 2) rfl) rfl rfl dX6_count_85 ?_
              refine v_iload_n X 3 dX6_count_88 rfl rfl ?_
              refine v_aald X 8 2 rfl rfl h.1 h.2.1 dX6_count_89 ?_
              replace h := h.2.2
              refine v_getN X 6 6 (F := TX5) (N := 8) iX6_count_X5 rfl rfl (by decide) (List.mem_of_getElem? (i := 29) rfl) rfl rfl dX6_count_90 ?_
              refine v_goto X (tgt := 105) dX6_count_93 (by decide) ?_
              refine v_lv (lv' := [(0, .ref o_p0), (1, .int x_1), (3, .int x_3)]) [0, 1, 3] rfl ?_
              exact k_X6_count_105 X r hK_52 h
          · replace h := h.2 c_72
            refine v_iconst X dX6_count_75 (v := (1 : Int32)) (by decide) ?_
            refine v_goto X (tgt := 105) dX6_count_76 (by decide) ?_
            refine v_lv (lv' := [(0, .ref o_p0), (1, .int x_1), (3, .int x_3)]) [0, 1, 3] rfl ?_
            exact k_X6_count_105 X r hK_52 h
set_option maxHeartbeats 4000000 in
set_option maxRecDepth 100000 in
theorem k_X6_count_40 {E : vE} {T : Nat → ClassId} {o_p0 : Nat} {a_p0 : Nat → Nat} {o_S : Nat} {o_W0 : Nat} {a_W0 : Nat → Nat} {o_W1 : Nat} {a_W1 : Nat → Nat} {o_W2 : Nat} {a_W2 : Nat → Nat} {o_W3 : Nat} {a_W3 : Nat → Nat} {o_W4 : Nat} {a_W4 : Nat → Nat} {o_W5 : Nat} {a_W5 : Nat → Nat} {s_p0_sentSize : Int32} {s_p0_latestFinding : Int32} {s_p0_latestTries : Int32} {s_p0_latestAsked : Int64} {s_W0_there : Int32} {s_W0_kind : Int32} {s_W0_tag : Int32} {s_W0_size : Int32} {s_W0_lineCount : Int32} {s_W1_there : Int32} {s_W1_kind : Int32} {s_W1_tag : Int32} {s_W1_size : Int32} {s_W1_lineCount : Int32} {s_W2_there : Int32} {s_W2_kind : Int32} {s_W2_tag : Int32} {s_W2_size : Int32} {s_W2_lineCount : Int32} {s_W3_there : Int32} {s_W3_kind : Int32} {s_W3_tag : Int32} {s_W3_size : Int32} {s_W3_lineCount : Int32} {s_W4_there : Int32} {s_W4_kind : Int32} {s_W4_tag : Int32} {s_W4_size : Int32} {s_W4_lineCount : Int32} {s_W5_there : Int32} {s_W5_kind : Int32} {s_W5_tag : Int32} {s_W5_size : Int32} {s_W5_lineCount : Int32} {s_p0_rowSizes : Nat → Int32} {s_p0_worlds : Nat → Option Nat} {x_3 : Int32} {t_0 : Int32} {t_1 : Int32} {K_20 : (Int32) → (Int32) → Prop} {Q : Int32 → Prop} (X : vX E cX6_count 4 RX6 wsX6_count (vT T) (vr 0 0)) (r : r_X6_count E T o_p0 a_p0 o_S o_W0 a_W0 o_W1 a_W1 o_W2 a_W2 o_W3 a_W3 o_W4 a_W4 o_W5 a_W5 s_p0_sentSize s_p0_latestFinding s_p0_latestTries s_p0_latestAsked s_W0_there s_W0_kind s_W0_tag s_W0_size s_W0_lineCount s_W1_there s_W1_kind s_W1_tag s_W1_size s_W1_lineCount s_W2_there s_W2_kind s_W2_tag s_W2_size s_W2_lineCount s_W3_there s_W3_kind s_W3_tag s_W3_size s_W3_lineCount s_W4_there s_W4_kind s_W4_tag s_W4_size s_W4_lineCount s_W5_there s_W5_kind s_W5_tag s_W5_size s_W5_lineCount s_p0_rowSizes s_p0_worlds Q) (hK_20 : ∀ (x_2' : Int32) (x_3' : Int32), K_20 x_2' x_3' → V E 0 0 20 [(0, .ref o_p0), (2, .int x_2'), (3, .int x_3')] [] (cl_X6_count T o_p0 a_p0 o_S o_W0 a_W0 o_W1 a_W1 o_W2 a_W2 o_W3 a_W3 o_W4 a_W4 o_W5 a_W5 s_p0_sentSize s_p0_latestFinding s_p0_latestTries s_p0_latestAsked s_W0_there s_W0_kind s_W0_tag s_W0_size s_W0_lineCount s_W1_there s_W1_kind s_W1_tag s_W1_size s_W1_lineCount s_W2_there s_W2_kind s_W2_tag s_W2_size s_W2_lineCount s_W3_there s_W3_kind s_W3_tag s_W3_size s_W3_lineCount s_W4_there s_W4_kind s_W4_tag s_W4_size s_W4_lineCount s_W5_there s_W5_kind s_W5_tag s_W5_size s_W5_lineCount s_p0_rowSizes s_p0_worlds)) (h : w_X6_count_40 x_3 t_0 t_1 s_W0_there s_W0_size s_W0_lineCount s_W1_there s_W1_size s_W1_lineCount s_W2_there s_W2_size s_W2_lineCount s_W3_there s_W3_size s_W3_lineCount s_W4_there s_W4_size s_W4_lineCount s_W5_there s_W5_size s_W5_lineCount s_p0_rowSizes s_p0_worlds o_W0 o_W1 o_W2 o_W3 o_W4 o_W5 K_20 Q) : V E 0 0 40 [(0, .ref o_p0), (3, .int x_3)] [.int t_1, .int t_0] (cl_X6_count T o_p0 a_p0 o_S o_W0 a_W0 o_W1 a_W1 o_W2 a_W2 o_W3 a_W3 o_W4 a_W4 o_W5 a_W5 s_p0_sentSize s_p0_latestFinding s_p0_latestTries s_p0_latestAsked s_W0_there s_W0_kind s_W0_tag s_W0_size s_W0_lineCount s_W1_there s_W1_kind s_W1_tag s_W1_size s_W1_lineCount s_W2_there s_W2_kind s_W2_tag s_W2_size s_W2_lineCount s_W3_there s_W3_kind s_W3_tag s_W3_size s_W3_lineCount s_W4_there s_W4_kind s_W4_tag s_W4_size s_W4_lineCount s_W5_there s_W5_kind s_W5_tag s_W5_size s_W5_lineCount s_p0_rowSizes s_p0_worlds) := by
  unfold w_X6_count_40 at h
  refine v_iadd X dX6_count_40 ?_
  refine v_istore_n X (lv' := [(2, .int (t_0 + t_1)), (0, .ref o_p0), (3, .int x_3)]) dX6_count_41 rfl (by decide) rfl ?_
  refine v_iinc X (v := (x_3 + (1 : Int32))) (lv' := [(3, .int (x_3 + (1 : Int32))), (2, .int (t_0 + t_1)), (0, .ref o_p0)]) 2 dX6_count_42 rfl rfl (by decide) rfl ?_
  refine v_goto X (tgt := 20) dX6_count_45 (by decide) ?_
  refine v_lv (lv' := [(0, .ref o_p0), (2, .int (t_0 + t_1)), (3, .int (x_3 + (1 : Int32)))]) [2, 1, 0] rfl ?_
  exact hK_20 _ _ h
set_option maxHeartbeats 4000000 in
set_option maxRecDepth 100000 in
theorem k_X6_count_20 {E : vE} {T : Nat → ClassId} {o_p0 : Nat} {a_p0 : Nat → Nat} {o_S : Nat} {o_W0 : Nat} {a_W0 : Nat → Nat} {o_W1 : Nat} {a_W1 : Nat → Nat} {o_W2 : Nat} {a_W2 : Nat → Nat} {o_W3 : Nat} {a_W3 : Nat → Nat} {o_W4 : Nat} {a_W4 : Nat → Nat} {o_W5 : Nat} {a_W5 : Nat → Nat} {s_p0_sentSize : Int32} {s_p0_latestFinding : Int32} {s_p0_latestTries : Int32} {s_p0_latestAsked : Int64} {s_W0_there : Int32} {s_W0_kind : Int32} {s_W0_tag : Int32} {s_W0_size : Int32} {s_W0_lineCount : Int32} {s_W1_there : Int32} {s_W1_kind : Int32} {s_W1_tag : Int32} {s_W1_size : Int32} {s_W1_lineCount : Int32} {s_W2_there : Int32} {s_W2_kind : Int32} {s_W2_tag : Int32} {s_W2_size : Int32} {s_W2_lineCount : Int32} {s_W3_there : Int32} {s_W3_kind : Int32} {s_W3_tag : Int32} {s_W3_size : Int32} {s_W3_lineCount : Int32} {s_W4_there : Int32} {s_W4_kind : Int32} {s_W4_tag : Int32} {s_W4_size : Int32} {s_W4_lineCount : Int32} {s_W5_there : Int32} {s_W5_kind : Int32} {s_W5_tag : Int32} {s_W5_size : Int32} {s_W5_lineCount : Int32} {s_p0_rowSizes : Nat → Int32} {s_p0_worlds : Nat → Option Nat} {Q : Int32 → Prop} (X : vX E cX6_count 4 RX6 wsX6_count (vT T) (vr 0 0)) (r : r_X6_count E T o_p0 a_p0 o_S o_W0 a_W0 o_W1 a_W1 o_W2 a_W2 o_W3 a_W3 o_W4 a_W4 o_W5 a_W5 s_p0_sentSize s_p0_latestFinding s_p0_latestTries s_p0_latestAsked s_W0_there s_W0_kind s_W0_tag s_W0_size s_W0_lineCount s_W1_there s_W1_kind s_W1_tag s_W1_size s_W1_lineCount s_W2_there s_W2_kind s_W2_tag s_W2_size s_W2_lineCount s_W3_there s_W3_kind s_W3_tag s_W3_size s_W3_lineCount s_W4_there s_W4_kind s_W4_tag s_W4_size s_W4_lineCount s_W5_there s_W5_kind s_W5_tag s_W5_size s_W5_lineCount s_p0_rowSizes s_p0_worlds Q) : ∀ (n_ : Nat) (x_2 : Int32) (x_3 : Int32), w_X6_count_20 s_W0_there s_W0_size s_W0_lineCount s_W1_there s_W1_size s_W1_lineCount s_W2_there s_W2_size s_W2_lineCount s_W3_there s_W3_size s_W3_lineCount s_W4_there s_W4_size s_W4_lineCount s_W5_there s_W5_size s_W5_lineCount s_p0_rowSizes s_p0_worlds o_W0 o_W1 o_W2 o_W3 o_W4 o_W5 Q n_ x_2 x_3 → V E 0 0 20 [(0, .ref o_p0), (2, .int x_2), (3, .int x_3)] [] (cl_X6_count T o_p0 a_p0 o_S o_W0 a_W0 o_W1 a_W1 o_W2 a_W2 o_W3 a_W3 o_W4 a_W4 o_W5 a_W5 s_p0_sentSize s_p0_latestFinding s_p0_latestTries s_p0_latestAsked s_W0_there s_W0_kind s_W0_tag s_W0_size s_W0_lineCount s_W1_there s_W1_kind s_W1_tag s_W1_size s_W1_lineCount s_W2_there s_W2_kind s_W2_tag s_W2_size s_W2_lineCount s_W3_there s_W3_kind s_W3_tag s_W3_size s_W3_lineCount s_W4_there s_W4_kind s_W4_tag s_W4_size s_W4_lineCount s_W5_there s_W5_kind s_W5_tag s_W5_size s_W5_lineCount s_p0_rowSizes s_p0_worlds) := by
  intro n_
  induction n_ with
  | zero => intro x_2 x_3 h; exact h.elim
  | succ n_ hK_20 =>
    intro x_2 x_3 h
    replace h : w_X6_count_20s s_W0_there s_W0_size s_W0_lineCount s_W1_there s_W1_size s_W1_lineCount s_W2_there s_W2_size s_W2_lineCount s_W3_there s_W3_size s_W3_lineCount s_W4_there s_W4_size s_W4_lineCount s_W5_there s_W5_size s_W5_lineCount s_p0_rowSizes s_p0_worlds o_W0 o_W1 o_W2 o_W3 o_W4 o_W5 Q (w_X6_count_20 s_W0_there s_W0_size s_W0_lineCount s_W1_there s_W1_size s_W1_lineCount s_W2_there s_W2_size s_W2_lineCount s_W3_there s_W3_size s_W3_lineCount s_W4_there s_W4_size s_W4_lineCount s_W5_there s_W5_size s_W5_lineCount s_p0_rowSizes s_p0_worlds o_W0 o_W1 o_W2 o_W3 o_W4 o_W5 Q n_) x_2 x_3 := h
    unfold w_X6_count_20s at h
    refine v_iload_n X 2 dX6_count_20 rfl rfl ?_
    refine v_iconst X dX6_count_21 (v := (4 : Int32)) (by decide) ?_
    refine v_icmp_ge X (tgt := 48) dX6_count_22 (by decide) (fun c_22 => ?_) (fun c_22 => ?_)
    · replace h := h.1 c_22
      refine v_iload_n X 1 dX6_count_48 rfl rfl ?_
      exact r _ _ _ () _ dX6_count_49 h rfl
    · replace h := h.2 c_22
      refine v_iload_n X 1 dX6_count_25 rfl rfl ?_
      refine v_aload_n X 0 dX6_count_26 rfl rfl ?_
      refine v_get X 0 2 (F := TX6) (N := 13) iX6_count_X6 rfl rfl (by decide) (List.mem_of_getElem? (i := 1) rfl) rfl rfl dX6_count_27 ?_
      refine v_iload_n X 2 dX6_count_30 rfl rfl ?_
      refine v_iald X 7 0 rfl rfl h.1 dX6_count_31 ?_
      replace h := h.2
      refine v_if_ge X (tgt := 39) dX6_count_32 (by decide) (fun c_32 => ?_) (fun c_32 => ?_)
      · replace h := h.1 c_32
        refine v_iconst X dX6_count_39 (v := (1 : Int32)) (by decide) ?_
        refine v_lv (lv' := [(0, .ref o_p0), (3, .int x_3)]) [0, 2] rfl ?_
        exact k_X6_count_40 X r hK_20 h
      · replace h := h.2 c_32
        refine v_iconst X dX6_count_35 (v := (0 : Int32)) (by decide) ?_
        refine v_goto X (tgt := 40) dX6_count_36 (by decide) ?_
        refine v_lv (lv' := [(0, .ref o_p0), (3, .int x_3)]) [0, 2] rfl ?_
        exact k_X6_count_40 X r hK_20 h
set_option maxHeartbeats 4000000 in
set_option maxRecDepth 100000 in
theorem k_X6_count_9 {E : vE} {T : Nat → ClassId} {o_p0 : Nat} {a_p0 : Nat → Nat} {o_S : Nat} {o_W0 : Nat} {a_W0 : Nat → Nat} {o_W1 : Nat} {a_W1 : Nat → Nat} {o_W2 : Nat} {a_W2 : Nat → Nat} {o_W3 : Nat} {a_W3 : Nat → Nat} {o_W4 : Nat} {a_W4 : Nat → Nat} {o_W5 : Nat} {a_W5 : Nat → Nat} {s_p0_sentSize : Int32} {s_p0_latestFinding : Int32} {s_p0_latestTries : Int32} {s_p0_latestAsked : Int64} {s_W0_there : Int32} {s_W0_kind : Int32} {s_W0_tag : Int32} {s_W0_size : Int32} {s_W0_lineCount : Int32} {s_W1_there : Int32} {s_W1_kind : Int32} {s_W1_tag : Int32} {s_W1_size : Int32} {s_W1_lineCount : Int32} {s_W2_there : Int32} {s_W2_kind : Int32} {s_W2_tag : Int32} {s_W2_size : Int32} {s_W2_lineCount : Int32} {s_W3_there : Int32} {s_W3_kind : Int32} {s_W3_tag : Int32} {s_W3_size : Int32} {s_W3_lineCount : Int32} {s_W4_there : Int32} {s_W4_kind : Int32} {s_W4_tag : Int32} {s_W4_size : Int32} {s_W4_lineCount : Int32} {s_W5_there : Int32} {s_W5_kind : Int32} {s_W5_tag : Int32} {s_W5_size : Int32} {s_W5_lineCount : Int32} {s_p0_rowSizes : Nat → Int32} {s_p0_worlds : Nat → Option Nat} {Q : Int32 → Prop} (X : vX E cX6_count 4 RX6 wsX6_count (vT T) (vr 0 0)) (r : r_X6_count E T o_p0 a_p0 o_S o_W0 a_W0 o_W1 a_W1 o_W2 a_W2 o_W3 a_W3 o_W4 a_W4 o_W5 a_W5 s_p0_sentSize s_p0_latestFinding s_p0_latestTries s_p0_latestAsked s_W0_there s_W0_kind s_W0_tag s_W0_size s_W0_lineCount s_W1_there s_W1_kind s_W1_tag s_W1_size s_W1_lineCount s_W2_there s_W2_kind s_W2_tag s_W2_size s_W2_lineCount s_W3_there s_W3_kind s_W3_tag s_W3_size s_W3_lineCount s_W4_there s_W4_kind s_W4_tag s_W4_size s_W4_lineCount s_W5_there s_W5_kind s_W5_tag s_W5_size s_W5_lineCount s_p0_rowSizes s_p0_worlds Q) (h : w_X6_count_9 s_W0_there s_W0_size s_W0_lineCount s_W1_there s_W1_size s_W1_lineCount s_W2_there s_W2_size s_W2_lineCount s_W3_there s_W3_size s_W3_lineCount s_W4_there s_W4_size s_W4_lineCount s_W5_there s_W5_size s_W5_lineCount s_p0_rowSizes s_p0_worlds o_W0 o_W1 o_W2 o_W3 o_W4 o_W5 Q) : V E 0 0 9 [] [] (cl_X6_count T o_p0 a_p0 o_S o_W0 a_W0 o_W1 a_W1 o_W2 a_W2 o_W3 a_W3 o_W4 a_W4 o_W5 a_W5 s_p0_sentSize s_p0_latestFinding s_p0_latestTries s_p0_latestAsked s_W0_there s_W0_kind s_W0_tag s_W0_size s_W0_lineCount s_W1_there s_W1_kind s_W1_tag s_W1_size s_W1_lineCount s_W2_there s_W2_kind s_W2_tag s_W2_size s_W2_lineCount s_W3_there s_W3_kind s_W3_tag s_W3_size s_W3_lineCount s_W4_there s_W4_kind s_W4_tag s_W4_size s_W4_lineCount s_W5_there s_W5_kind s_W5_tag s_W5_size s_W5_lineCount s_p0_rowSizes s_p0_worlds) := by
  unfold w_X6_count_9 at h
  refine v_iconst X dX6_count_9 (v := (-1 : Int32)) (by decide) ?_
  exact r _ _ _ () _ dX6_count_10 h rfl
set_option maxHeartbeats 4000000 in
set_option maxRecDepth 100000 in
theorem c_X6_count {l : Launch} {D : va_G} {T : Nat → ClassId} {o_p0 : Nat} {a_p0 : Nat → Nat} {o_S : Nat} {o_W0 : Nat} {a_W0 : Nat → Nat} {o_W1 : Nat} {a_W1 : Nat → Nat} {o_W2 : Nat} {a_W2 : Nat → Nat} {o_W3 : Nat} {a_W3 : Nat → Nat} {o_W4 : Nat} {a_W4 : Nat → Nat} {o_W5 : Nat} {a_W5 : Nat → Nat} {s_p0_sentSize : Int32} {s_p0_latestFinding : Int32} {s_p0_latestTries : Int32} {s_p0_latestAsked : Int64} {s_W0_there : Int32} {s_W0_kind : Int32} {s_W0_tag : Int32} {s_W0_size : Int32} {s_W0_lineCount : Int32} {s_W1_there : Int32} {s_W1_kind : Int32} {s_W1_tag : Int32} {s_W1_size : Int32} {s_W1_lineCount : Int32} {s_W2_there : Int32} {s_W2_kind : Int32} {s_W2_tag : Int32} {s_W2_size : Int32} {s_W2_lineCount : Int32} {s_W3_there : Int32} {s_W3_kind : Int32} {s_W3_tag : Int32} {s_W3_size : Int32} {s_W3_lineCount : Int32} {s_W4_there : Int32} {s_W4_kind : Int32} {s_W4_tag : Int32} {s_W4_size : Int32} {s_W4_lineCount : Int32} {s_W5_there : Int32} {s_W5_kind : Int32} {s_W5_tag : Int32} {s_W5_size : Int32} {s_W5_lineCount : Int32} {s_p0_rowSizes : Nat → Int32} {s_p0_worlds : Nat → Option Nat} {x_1 : Int32} {Q : Int32 → Prop} (h : w_X6_count x_1 s_W0_there s_W0_size s_W0_lineCount s_W1_there s_W1_size s_W1_lineCount s_W2_there s_W2_size s_W2_lineCount s_W3_there s_W3_size s_W3_lineCount s_W4_there s_W4_size s_W4_lineCount s_W5_there s_W5_size s_W5_lineCount s_p0_rowSizes s_p0_worlds o_W0 o_W1 o_W2 o_W3 o_W4 o_W5 Q) : vCi l D (vT T) yX6_count wsX6_count (vr 0 0) [.ref o_p0, .int x_1] (cl_X6_count T o_p0 a_p0 o_S o_W0 a_W0 o_W1 a_W1 o_W2 a_W2 o_W3 a_W3 o_W4 a_W4 o_W5 a_W5 s_p0_sentSize s_p0_latestFinding s_p0_latestTries s_p0_latestAsked s_W0_there s_W0_kind s_W0_tag s_W0_size s_W0_lineCount s_W1_there s_W1_kind s_W1_tag s_W1_size s_W1_lineCount s_W2_there s_W2_kind s_W2_tag s_W2_size s_W2_lineCount s_W3_there s_W3_kind s_W3_tag s_W3_size s_W3_lineCount s_W4_there s_W4_kind s_W4_tag s_W4_size s_W4_lineCount s_W5_there s_W5_kind s_W5_tag s_W5_size s_W5_lineCount s_p0_rowSizes s_p0_worlds) (fun v (u : Unit) => Q v) (fun (u : Unit) => (cl_X6_count T o_p0 a_p0 o_S o_W0 a_W0 o_W1 a_W1 o_W2 a_W2 o_W3 a_W3 o_W4 a_W4 o_W5 a_W5 s_p0_sentSize s_p0_latestFinding s_p0_latestTries s_p0_latestAsked s_W0_there s_W0_kind s_W0_tag s_W0_size s_W0_lineCount s_W1_there s_W1_kind s_W1_tag s_W1_size s_W1_lineCount s_W2_there s_W2_kind s_W2_tag s_W2_size s_W2_lineCount s_W3_there s_W3_kind s_W3_tag s_W3_size s_W3_lineCount s_W4_there s_W4_kind s_W4_tag s_W4_size s_W4_lineCount s_W5_there s_W5_kind s_W5_tag s_W5_size s_W5_lineCount s_p0_rowSizes s_p0_worlds)) := by
  refine vC_i (cc := cX6_count) (nL := 4) (by decide +kernel) rfl ⟨rfl, rfl⟩ (Nat.le_of_ble_eq_true rfl) rfl ?_
  intro E el eD X r
  unfold w_X6_count at h
  refine v_iload_n X 1 dX6_count_0 rfl rfl ?_
  refine v_if_lt X (tgt := 9) dX6_count_1 (by decide) (fun c_1 => ?_) (fun c_1 => ?_)
  · replace h := h.1 c_1
    refine v_lv (lv' := []) [] rfl ?_
    exact k_X6_count_9 X r h
  · replace h := h.2 c_1
    refine v_iload_n X 1 dX6_count_4 rfl rfl ?_
    refine v_iconst X dX6_count_5 (v := (3 : Int32)) (by decide) ?_
    refine v_icmp_le X (tgt := 11) dX6_count_6 (by decide) (fun c_6 => ?_) (fun c_6 => ?_)
    · replace h := h.1 c_6
      refine v_iconst X dX6_count_11 (v := (0 : Int32)) (by decide) ?_
      refine v_istore_n X (lv' := [(2, .int (0 : Int32)), (0, .ref o_p0), (1, .int x_1)]) dX6_count_12 rfl (by decide) rfl ?_
      refine v_iload_n X 2 dX6_count_13 rfl rfl ?_
      refine v_iconst X dX6_count_14 (v := (3 : Int32)) (by decide) ?_
      refine v_icmp_ne X (tgt := 50) dX6_count_15 (by decide) (fun c_15 => ?_) (fun c_15 => ?_)
      · replace h := h.1 c_15
        refine v_iconst X dX6_count_50 (v := (0 : Int32)) (by decide) ?_
        refine v_istore_n X (lv' := [(3, .int (0 : Int32)), (2, .int (0 : Int32)), (0, .ref o_p0), (1, .int x_1)]) dX6_count_51 rfl (by decide) rfl ?_
        refine v_lv (lv' := [(0, .ref o_p0), (1, .int x_1), (2, .int (0 : Int32)), (3, .int (0 : Int32))]) [2, 3, 1, 0] rfl ?_
        obtain ⟨n_, h⟩ := h
        exact k_X6_count_52 X r n_ _ _ h
      · replace h := h.2 c_15
        refine v_iconst X dX6_count_18 (v := (0 : Int32)) (by decide) ?_
        refine v_istore_n X (lv' := [(3, .int (0 : Int32)), (2, .int (0 : Int32)), (0, .ref o_p0), (1, .int x_1)]) dX6_count_19 rfl (by decide) rfl ?_
        refine v_lv (lv' := [(0, .ref o_p0), (2, .int (0 : Int32)), (3, .int (0 : Int32))]) [2, 1, 0] rfl ?_
        obtain ⟨n_, h⟩ := h
        exact k_X6_count_20 X r n_ _ _ h
    · replace h := h.2 c_6
      refine v_lv (lv' := []) [] rfl ?_
      exact k_X6_count_9 X r h
-- X6_finding
abbrev cl_X6_finding (T : Nat → ClassId) (o_p0 : Nat) (a_p0 : Nat → Nat) (o_S : Nat) (s_p0_sentSize : Int32) (s_p0_latestFinding : Int32) (s_p0_latestTries : Int32) (s_p0_latestAsked : Int64) : va_W := [vO o_p0 3 [.ref (a_p0 0), .ref (a_p0 1), .ref (a_p0 2), .ref (a_p0 3), .ref (a_p0 4), .ref (a_p0 5), .ref (a_p0 6), .ref (a_p0 7), .ref o_S, .int s_p0_sentSize, .int s_p0_latestFinding, .int s_p0_latestTries, .long s_p0_latestAsked]]
abbrev r_X6_finding (E : vE) (T : Nat → ClassId) (o_p0 : Nat) (a_p0 : Nat → Nat) (o_S : Nat) (s_p0_sentSize : Int32) (s_p0_latestFinding : Int32) (s_p0_latestTries : Int32) (s_p0_latestAsked : Int64) (Q : Int32 → Prop) : Prop := vRi E cX6_finding (fun v (u : Unit) => Q v) (fun (u : Unit) => (cl_X6_finding T o_p0 a_p0 o_S s_p0_sentSize s_p0_latestFinding s_p0_latestTries s_p0_latestAsked))
def w_X6_finding (s_p0_latestFinding : Int32) (Q : Int32 → Prop) : Prop := (Q s_p0_latestFinding)
-- X6_finding
theorem iX6_finding_X6 : ∀ w ∈ wsX60, w ∈ wsX6_finding := by decide +kernel
set_option maxHeartbeats 4000000 in
set_option maxRecDepth 100000 in
theorem c_X6_finding {l : Launch} {D : va_G} {T : Nat → ClassId} {o_p0 : Nat} {a_p0 : Nat → Nat} {o_S : Nat} {s_p0_sentSize : Int32} {s_p0_latestFinding : Int32} {s_p0_latestTries : Int32} {s_p0_latestAsked : Int64} {Q : Int32 → Prop} (h : w_X6_finding s_p0_latestFinding Q) : vCi l D (vT T) yX6_finding wsX6_finding (vr 0 0) [.ref o_p0] (cl_X6_finding T o_p0 a_p0 o_S s_p0_sentSize s_p0_latestFinding s_p0_latestTries s_p0_latestAsked) (fun v (u : Unit) => Q v) (fun (u : Unit) => (cl_X6_finding T o_p0 a_p0 o_S s_p0_sentSize s_p0_latestFinding s_p0_latestTries s_p0_latestAsked)) := by
  refine vC_i (cc := cX6_finding) (nL := 1) (by decide +kernel) rfl ⟨rfl, rfl⟩ (Nat.le_of_ble_eq_true rfl) rfl ?_
  intro E el eD X r
  unfold w_X6_finding at h
  refine v_aload_n X 0 dX6_finding_0 rfl rfl ?_
  refine v_get X 0 10 (F := TX6) (N := 13) iX6_finding_X6 rfl rfl (by decide) (List.mem_of_getElem? (i := 1) rfl) rfl rfl dX6_finding_1 ?_
  exact r _ _ _ () _ dX6_finding_4 h rfl
-- X6_findings
abbrev cl_X6_findings (T : Nat → ClassId) (o_p0 : Nat) (a_p0 : Nat → Nat) (o_S : Nat) (s_p0_sentSize : Int32) (s_p0_latestFinding : Int32) (s_p0_latestTries : Int32) (s_p0_latestAsked : Int64) (s_p0_findingTimes : Nat → Int32) : va_W := [vO o_p0 3 [.ref (a_p0 0), .ref (a_p0 1), .ref (a_p0 2), .ref (a_p0 3), .ref (a_p0 4), .ref (a_p0 5), .ref (a_p0 6), .ref (a_p0 7), .ref o_S, .int s_p0_sentSize, .int s_p0_latestFinding, .int s_p0_latestTries, .long s_p0_latestAsked], vI T (a_p0 3) 6 s_p0_findingTimes]
abbrev r_X6_findings (E : vE) (T : Nat → ClassId) (o_p0 : Nat) (a_p0 : Nat → Nat) (o_S : Nat) (s_p0_sentSize : Int32) (s_p0_latestFinding : Int32) (s_p0_latestTries : Int32) (s_p0_latestAsked : Int64) (s_p0_findingTimes : Nat → Int32) (Q : Int32 → Prop) : Prop := vRi E cX6_findings (fun v (u : Unit) => Q v) (fun (u : Unit) => (cl_X6_findings T o_p0 a_p0 o_S s_p0_sentSize s_p0_latestFinding s_p0_latestTries s_p0_latestAsked s_p0_findingTimes))
def w_X6_findings_10 (s_p0_findingTimes : Nat → Int32) (Q : Int32 → Prop) : Prop := (Q (-1 : Int32))
def w_X6_findings (x_1 : Int32) (s_p0_findingTimes : Nat → Int32) (Q : Int32 → Prop) : Prop := ((x_1 < (1 : Int32) → (w_X6_findings_10 s_p0_findingTimes Q)) ∧ (¬ x_1 < (1 : Int32) → ((x_1 ≤ (5 : Int32) → (vp_in x_1 6 ∧ (Q (s_p0_findingTimes (x_1).toNatClampNeg)))) ∧ (¬ x_1 ≤ (5 : Int32) → (w_X6_findings_10 s_p0_findingTimes Q)))))
-- X6_findings
theorem iX6_findings_X6 : ∀ w ∈ wsX60, w ∈ wsX6_findings := by decide +kernel
set_option maxHeartbeats 4000000 in
set_option maxRecDepth 100000 in
theorem k_X6_findings_10 {E : vE} {T : Nat → ClassId} {o_p0 : Nat} {a_p0 : Nat → Nat} {o_S : Nat} {s_p0_sentSize : Int32} {s_p0_latestFinding : Int32} {s_p0_latestTries : Int32} {s_p0_latestAsked : Int64} {s_p0_findingTimes : Nat → Int32} {Q : Int32 → Prop} (X : vX E cX6_findings 2 RX6 wsX6_findings (vT T) (vr 0 0)) (r : r_X6_findings E T o_p0 a_p0 o_S s_p0_sentSize s_p0_latestFinding s_p0_latestTries s_p0_latestAsked s_p0_findingTimes Q) (h : w_X6_findings_10 s_p0_findingTimes Q) : V E 0 0 10 [] [] (cl_X6_findings T o_p0 a_p0 o_S s_p0_sentSize s_p0_latestFinding s_p0_latestTries s_p0_latestAsked s_p0_findingTimes) := by
  unfold w_X6_findings_10 at h
  refine v_iconst X dX6_findings_10 (v := (-1 : Int32)) (by decide) ?_
  exact r _ _ _ () _ dX6_findings_11 h rfl
set_option maxHeartbeats 4000000 in
set_option maxRecDepth 100000 in
theorem c_X6_findings {l : Launch} {D : va_G} {T : Nat → ClassId} {o_p0 : Nat} {a_p0 : Nat → Nat} {o_S : Nat} {s_p0_sentSize : Int32} {s_p0_latestFinding : Int32} {s_p0_latestTries : Int32} {s_p0_latestAsked : Int64} {s_p0_findingTimes : Nat → Int32} {x_1 : Int32} {Q : Int32 → Prop} (h : w_X6_findings x_1 s_p0_findingTimes Q) : vCi l D (vT T) yX6_findings wsX6_findings (vr 0 0) [.ref o_p0, .int x_1] (cl_X6_findings T o_p0 a_p0 o_S s_p0_sentSize s_p0_latestFinding s_p0_latestTries s_p0_latestAsked s_p0_findingTimes) (fun v (u : Unit) => Q v) (fun (u : Unit) => (cl_X6_findings T o_p0 a_p0 o_S s_p0_sentSize s_p0_latestFinding s_p0_latestTries s_p0_latestAsked s_p0_findingTimes)) := by
  refine vC_i (cc := cX6_findings) (nL := 2) (by decide +kernel) rfl ⟨rfl, rfl⟩ (Nat.le_of_ble_eq_true rfl) rfl ?_
  intro E el eD X r
  unfold w_X6_findings at h
  refine v_iload_n X 1 dX6_findings_0 rfl rfl ?_
  refine v_iconst X dX6_findings_1 (v := (1 : Int32)) (by decide) ?_
  refine v_icmp_lt X (tgt := 10) dX6_findings_2 (by decide) (fun c_2 => ?_) (fun c_2 => ?_)
  · replace h := h.1 c_2
    refine v_lv (lv' := []) [] rfl ?_
    exact k_X6_findings_10 X r h
  · replace h := h.2 c_2
    refine v_iload_n X 1 dX6_findings_5 rfl rfl ?_
    refine v_iconst X dX6_findings_6 (v := (5 : Int32)) (by decide) ?_
    refine v_icmp_le X (tgt := 12) dX6_findings_7 (by decide) (fun c_7 => ?_) (fun c_7 => ?_)
    · replace h := h.1 c_7
      refine v_aload_n X 0 dX6_findings_12 rfl rfl ?_
      refine v_get X 0 3 (F := TX6) (N := 13) iX6_findings_X6 rfl rfl (by decide) (List.mem_of_getElem? (i := 1) rfl) rfl rfl dX6_findings_13 ?_
      refine v_iload_n X 1 dX6_findings_16 rfl rfl ?_
      refine v_iald X 1 0 rfl rfl h.1 dX6_findings_17 ?_
      replace h := h.2
      exact r _ _ _ () _ dX6_findings_18 h rfl
    · replace h := h.2 c_7
      refine v_lv (lv' := []) [] rfl ?_
      exact k_X6_findings_10 X r h
-- X6_digest
abbrev cl_X6_digest (T : Nat → ClassId) (o_p0 : Nat) (a_p0 : Nat → Nat) (o_S : Nat) (o_R0 : Nat) (o_R1 : Nat) (o_R2 : Nat) (o_R3 : Nat) (o_W0 : Nat) (a_W0 : Nat → Nat) (o_W1 : Nat) (a_W1 : Nat → Nat) (o_W2 : Nat) (a_W2 : Nat → Nat) (o_W3 : Nat) (a_W3 : Nat → Nat) (o_W4 : Nat) (a_W4 : Nat → Nat) (o_W5 : Nat) (a_W5 : Nat → Nat) (s_p0_sentSize : Int32) (s_p0_latestFinding : Int32) (s_p0_latestTries : Int32) (s_p0_latestAsked : Int64) (s_R0 : Nat → Int32) (s_R1 : Nat → Int32) (s_R2 : Nat → Int32) (s_R3 : Nat → Int32) (s_W0_there : Int32) (s_W0_kind : Int32) (s_W0_tag : Int32) (s_W0_size : Int32) (s_W0_lineCount : Int32) (s_W0_sets : Nat → Int64) (s_W1_there : Int32) (s_W1_kind : Int32) (s_W1_tag : Int32) (s_W1_size : Int32) (s_W1_lineCount : Int32) (s_W1_sets : Nat → Int64) (s_W2_there : Int32) (s_W2_kind : Int32) (s_W2_tag : Int32) (s_W2_size : Int32) (s_W2_lineCount : Int32) (s_W2_sets : Nat → Int64) (s_W3_there : Int32) (s_W3_kind : Int32) (s_W3_tag : Int32) (s_W3_size : Int32) (s_W3_lineCount : Int32) (s_W3_sets : Nat → Int64) (s_W4_there : Int32) (s_W4_kind : Int32) (s_W4_tag : Int32) (s_W4_size : Int32) (s_W4_lineCount : Int32) (s_W4_sets : Nat → Int64) (s_W5_there : Int32) (s_W5_kind : Int32) (s_W5_tag : Int32) (s_W5_size : Int32) (s_W5_lineCount : Int32) (s_W5_sets : Nat → Int64) (s_p0_rowPlaces : Nat → Option Nat) (s_p0_rowSizes : Nat → Int32) (s_p0_worlds : Nat → Option Nat) : va_W := [vO o_p0 3 [.ref (a_p0 0), .ref (a_p0 1), .ref (a_p0 2), .ref (a_p0 3), .ref (a_p0 4), .ref (a_p0 5), .ref (a_p0 6), .ref (a_p0 7), .ref o_S, .int s_p0_sentSize, .int s_p0_latestFinding, .int s_p0_latestTries, .long s_p0_latestAsked], vI T o_R0 12 s_R0, vI T o_R1 12 s_R1, vI T o_R2 12 s_R2, vI T o_R3 12 s_R3, vO o_W0 2 [.ref (a_W0 0), .ref (a_W0 1), .ref (a_W0 2), .int s_W0_there, .int s_W0_kind, .int s_W0_tag, .int s_W0_size, .int s_W0_lineCount], vJ T (a_W0 0) 45 s_W0_sets, vO o_W1 2 [.ref (a_W1 0), .ref (a_W1 1), .ref (a_W1 2), .int s_W1_there, .int s_W1_kind, .int s_W1_tag, .int s_W1_size, .int s_W1_lineCount], vJ T (a_W1 0) 45 s_W1_sets, vO o_W2 2 [.ref (a_W2 0), .ref (a_W2 1), .ref (a_W2 2), .int s_W2_there, .int s_W2_kind, .int s_W2_tag, .int s_W2_size, .int s_W2_lineCount], vJ T (a_W2 0) 45 s_W2_sets, vO o_W3 2 [.ref (a_W3 0), .ref (a_W3 1), .ref (a_W3 2), .int s_W3_there, .int s_W3_kind, .int s_W3_tag, .int s_W3_size, .int s_W3_lineCount], vJ T (a_W3 0) 45 s_W3_sets, vO o_W4 2 [.ref (a_W4 0), .ref (a_W4 1), .ref (a_W4 2), .int s_W4_there, .int s_W4_kind, .int s_W4_tag, .int s_W4_size, .int s_W4_lineCount], vJ T (a_W4 0) 45 s_W4_sets, vO o_W5 2 [.ref (a_W5 0), .ref (a_W5 1), .ref (a_W5 2), .int s_W5_there, .int s_W5_kind, .int s_W5_tag, .int s_W5_size, .int s_W5_lineCount], vJ T (a_W5 0) 45 s_W5_sets, vR T 3 (a_p0 1) 4 s_p0_rowPlaces, vI T (a_p0 2) 4 s_p0_rowSizes, vR T 2 (a_p0 0) 6 s_p0_worlds]
abbrev r_X6_digest (E : vE) (T : Nat → ClassId) (o_p0 : Nat) (a_p0 : Nat → Nat) (o_S : Nat) (o_R0 : Nat) (o_R1 : Nat) (o_R2 : Nat) (o_R3 : Nat) (o_W0 : Nat) (a_W0 : Nat → Nat) (o_W1 : Nat) (a_W1 : Nat → Nat) (o_W2 : Nat) (a_W2 : Nat → Nat) (o_W3 : Nat) (a_W3 : Nat → Nat) (o_W4 : Nat) (a_W4 : Nat → Nat) (o_W5 : Nat) (a_W5 : Nat → Nat) (s_p0_sentSize : Int32) (s_p0_latestFinding : Int32) (s_p0_latestTries : Int32) (s_p0_latestAsked : Int64) (s_R0 : Nat → Int32) (s_R1 : Nat → Int32) (s_R2 : Nat → Int32) (s_R3 : Nat → Int32) (s_W0_there : Int32) (s_W0_kind : Int32) (s_W0_tag : Int32) (s_W0_size : Int32) (s_W0_lineCount : Int32) (s_W0_sets : Nat → Int64) (s_W1_there : Int32) (s_W1_kind : Int32) (s_W1_tag : Int32) (s_W1_size : Int32) (s_W1_lineCount : Int32) (s_W1_sets : Nat → Int64) (s_W2_there : Int32) (s_W2_kind : Int32) (s_W2_tag : Int32) (s_W2_size : Int32) (s_W2_lineCount : Int32) (s_W2_sets : Nat → Int64) (s_W3_there : Int32) (s_W3_kind : Int32) (s_W3_tag : Int32) (s_W3_size : Int32) (s_W3_lineCount : Int32) (s_W3_sets : Nat → Int64) (s_W4_there : Int32) (s_W4_kind : Int32) (s_W4_tag : Int32) (s_W4_size : Int32) (s_W4_lineCount : Int32) (s_W4_sets : Nat → Int64) (s_W5_there : Int32) (s_W5_kind : Int32) (s_W5_tag : Int32) (s_W5_size : Int32) (s_W5_lineCount : Int32) (s_W5_sets : Nat → Int64) (s_p0_rowPlaces : Nat → Option Nat) (s_p0_rowSizes : Nat → Int32) (s_p0_worlds : Nat → Option Nat) (Q : Int64 → Prop) : Prop := vRl E cX6_digest (fun v (u : Unit) => Q v) (fun (u : Unit) => (cl_X6_digest T o_p0 a_p0 o_S o_R0 o_R1 o_R2 o_R3 o_W0 a_W0 o_W1 a_W1 o_W2 a_W2 o_W3 a_W3 o_W4 a_W4 o_W5 a_W5 s_p0_sentSize s_p0_latestFinding s_p0_latestTries s_p0_latestAsked s_R0 s_R1 s_R2 s_R3 s_W0_there s_W0_kind s_W0_tag s_W0_size s_W0_lineCount s_W0_sets s_W1_there s_W1_kind s_W1_tag s_W1_size s_W1_lineCount s_W1_sets s_W2_there s_W2_kind s_W2_tag s_W2_size s_W2_lineCount s_W2_sets s_W3_there s_W3_kind s_W3_tag s_W3_size s_W3_lineCount s_W3_sets s_W4_there s_W4_kind s_W4_tag s_W4_size s_W4_lineCount s_W4_sets s_W5_there s_W5_kind s_W5_tag s_W5_size s_W5_lineCount s_W5_sets s_p0_rowPlaces s_p0_rowSizes s_p0_worlds))
def w_X6_digest_53s (x_3 : Int32) (s_R0 : Nat → Int32) (s_R1 : Nat → Int32) (s_R2 : Nat → Int32) (s_R3 : Nat → Int32) (s_W0_there : Int32) (s_W0_kind : Int32) (s_W0_size : Int32) (s_W0_lineCount : Int32) (s_W0_sets : Nat → Int64) (s_W1_there : Int32) (s_W1_kind : Int32) (s_W1_size : Int32) (s_W1_lineCount : Int32) (s_W1_sets : Nat → Int64) (s_W2_there : Int32) (s_W2_kind : Int32) (s_W2_size : Int32) (s_W2_lineCount : Int32) (s_W2_sets : Nat → Int64) (s_W3_there : Int32) (s_W3_kind : Int32) (s_W3_size : Int32) (s_W3_lineCount : Int32) (s_W3_sets : Nat → Int64) (s_W4_there : Int32) (s_W4_kind : Int32) (s_W4_size : Int32) (s_W4_lineCount : Int32) (s_W4_sets : Nat → Int64) (s_W5_there : Int32) (s_W5_kind : Int32) (s_W5_size : Int32) (s_W5_lineCount : Int32) (s_W5_sets : Nat → Int64) (s_p0_rowPlaces : Nat → Option Nat) (s_p0_rowSizes : Nat → Int32) (s_p0_worlds : Nat → Option Nat) (o_W0 : Nat) (o_W1 : Nat) (o_W2 : Nat) (o_W3 : Nat) (o_W4 : Nat) (o_W5 : Nat) (o_R0 : Nat) (o_R1 : Nat) (o_R2 : Nat) (o_R3 : Nat) (K_31 : (Int64) → (Int32) → Prop) (Q : Int64 → Prop) (K_53 : (Int64) → (Int32) → Prop) (x_1 : Int64) (x_4 : Int32) : Prop := (vp_in x_3 4 ∧ (((s_p0_rowSizes (x_3).toNatClampNeg) ≤ x_4 → (K_31 x_1 (x_3 + (1 : Int32)))) ∧ (¬ (s_p0_rowSizes (x_3).toNatClampNeg) ≤ x_4 → (vp_in x_3 4 ∧ (x_3 = 0 → s_p0_rowPlaces (x_3).toNatClampNeg = some o_R0 ∧ (vp_in x_4 12 ∧ (K_53 (((31 : Int64) * x_1) + ((s_R0 (x_4).toNatClampNeg)).toInt64) (x_4 + (1 : Int32))))) ∧ (x_3 = 1 → s_p0_rowPlaces (x_3).toNatClampNeg = some o_R1 ∧ (vp_in x_4 12 ∧ (K_53 (((31 : Int64) * x_1) + ((s_R1 (x_4).toNatClampNeg)).toInt64) (x_4 + (1 : Int32))))) ∧ (x_3 = 2 → s_p0_rowPlaces (x_3).toNatClampNeg = some o_R2 ∧ (vp_in x_4 12 ∧ (K_53 (((31 : Int64) * x_1) + ((s_R2 (x_4).toNatClampNeg)).toInt64) (x_4 + (1 : Int32))))) ∧ (x_3 = 3 → s_p0_rowPlaces (x_3).toNatClampNeg = some o_R3 ∧ (vp_in x_4 12 ∧ (K_53 (((31 : Int64) * x_1) + ((s_R3 (x_4).toNatClampNeg)).toInt64) (x_4 + (1 : Int32)))))))))
def w_X6_digest_53 (x_3 : Int32) (s_R0 : Nat → Int32) (s_R1 : Nat → Int32) (s_R2 : Nat → Int32) (s_R3 : Nat → Int32) (s_W0_there : Int32) (s_W0_kind : Int32) (s_W0_size : Int32) (s_W0_lineCount : Int32) (s_W0_sets : Nat → Int64) (s_W1_there : Int32) (s_W1_kind : Int32) (s_W1_size : Int32) (s_W1_lineCount : Int32) (s_W1_sets : Nat → Int64) (s_W2_there : Int32) (s_W2_kind : Int32) (s_W2_size : Int32) (s_W2_lineCount : Int32) (s_W2_sets : Nat → Int64) (s_W3_there : Int32) (s_W3_kind : Int32) (s_W3_size : Int32) (s_W3_lineCount : Int32) (s_W3_sets : Nat → Int64) (s_W4_there : Int32) (s_W4_kind : Int32) (s_W4_size : Int32) (s_W4_lineCount : Int32) (s_W4_sets : Nat → Int64) (s_W5_there : Int32) (s_W5_kind : Int32) (s_W5_size : Int32) (s_W5_lineCount : Int32) (s_W5_sets : Nat → Int64) (s_p0_rowPlaces : Nat → Option Nat) (s_p0_rowSizes : Nat → Int32) (s_p0_worlds : Nat → Option Nat) (o_W0 : Nat) (o_W1 : Nat) (o_W2 : Nat) (o_W3 : Nat) (o_W4 : Nat) (o_W5 : Nat) (o_R0 : Nat) (o_R1 : Nat) (o_R2 : Nat) (o_R3 : Nat) (K_31 : (Int64) → (Int32) → Prop) (Q : Int64 → Prop) : Nat → (Int64) → (Int32) → Prop
  | 0 => fun _ _ => False
  | n_ + 1 => w_X6_digest_53s x_3 s_R0 s_R1 s_R2 s_R3 s_W0_there s_W0_kind s_W0_size s_W0_lineCount s_W0_sets s_W1_there s_W1_kind s_W1_size s_W1_lineCount s_W1_sets s_W2_there s_W2_kind s_W2_size s_W2_lineCount s_W2_sets s_W3_there s_W3_kind s_W3_size s_W3_lineCount s_W3_sets s_W4_there s_W4_kind s_W4_size s_W4_lineCount s_W4_sets s_W5_there s_W5_kind s_W5_size s_W5_lineCount s_W5_sets s_p0_rowPlaces s_p0_rowSizes s_p0_worlds o_W0 o_W1 o_W2 o_W3 o_W4 o_W5 o_R0 o_R1 o_R2 o_R3 K_31 Q (w_X6_digest_53 x_3 s_R0 s_R1 s_R2 s_R3 s_W0_there s_W0_kind s_W0_size s_W0_lineCount s_W0_sets s_W1_there s_W1_kind s_W1_size s_W1_lineCount s_W1_sets s_W2_there s_W2_kind s_W2_size s_W2_lineCount s_W2_sets s_W3_there s_W3_kind s_W3_size s_W3_lineCount s_W3_sets s_W4_there s_W4_kind s_W4_size s_W4_lineCount s_W4_sets s_W5_there s_W5_kind s_W5_size s_W5_lineCount s_W5_sets s_p0_rowPlaces s_p0_rowSizes s_p0_worlds o_W0 o_W1 o_W2 o_W3 o_W4 o_W5 o_R0 o_R1 o_R2 o_R3 K_31 Q n_)
def w_X6_digest_31s (s_R0 : Nat → Int32) (s_R1 : Nat → Int32) (s_R2 : Nat → Int32) (s_R3 : Nat → Int32) (s_W0_there : Int32) (s_W0_kind : Int32) (s_W0_size : Int32) (s_W0_lineCount : Int32) (s_W0_sets : Nat → Int64) (s_W1_there : Int32) (s_W1_kind : Int32) (s_W1_size : Int32) (s_W1_lineCount : Int32) (s_W1_sets : Nat → Int64) (s_W2_there : Int32) (s_W2_kind : Int32) (s_W2_size : Int32) (s_W2_lineCount : Int32) (s_W2_sets : Nat → Int64) (s_W3_there : Int32) (s_W3_kind : Int32) (s_W3_size : Int32) (s_W3_lineCount : Int32) (s_W3_sets : Nat → Int64) (s_W4_there : Int32) (s_W4_kind : Int32) (s_W4_size : Int32) (s_W4_lineCount : Int32) (s_W4_sets : Nat → Int64) (s_W5_there : Int32) (s_W5_kind : Int32) (s_W5_size : Int32) (s_W5_lineCount : Int32) (s_W5_sets : Nat → Int64) (s_p0_rowPlaces : Nat → Option Nat) (s_p0_rowSizes : Nat → Int32) (s_p0_worlds : Nat → Option Nat) (o_W0 : Nat) (o_W1 : Nat) (o_W2 : Nat) (o_W3 : Nat) (o_W4 : Nat) (o_W5 : Nat) (o_R0 : Nat) (o_R1 : Nat) (o_R2 : Nat) (o_R3 : Nat) (Q : Int64 → Prop) (K_31 : (Int64) → (Int32) → Prop) (x_1 : Int64) (x_3 : Int32) : Prop := (((4 : Int32) ≤ x_3 → (Q x_1)) ∧ (¬ (4 : Int32) ≤ x_3 → (vp_in x_3 4 ∧ (∃ n_, w_X6_digest_53 x_3 s_R0 s_R1 s_R2 s_R3 s_W0_there s_W0_kind s_W0_size s_W0_lineCount s_W0_sets s_W1_there s_W1_kind s_W1_size s_W1_lineCount s_W1_sets s_W2_there s_W2_kind s_W2_size s_W2_lineCount s_W2_sets s_W3_there s_W3_kind s_W3_size s_W3_lineCount s_W3_sets s_W4_there s_W4_kind s_W4_size s_W4_lineCount s_W4_sets s_W5_there s_W5_kind s_W5_size s_W5_lineCount s_W5_sets s_p0_rowPlaces s_p0_rowSizes s_p0_worlds o_W0 o_W1 o_W2 o_W3 o_W4 o_W5 o_R0 o_R1 o_R2 o_R3 K_31 Q n_ (((31 : Int64) * x_1) + ((s_p0_rowSizes (x_3).toNatClampNeg)).toInt64) (0 : Int32)))))
def w_X6_digest_31 (s_R0 : Nat → Int32) (s_R1 : Nat → Int32) (s_R2 : Nat → Int32) (s_R3 : Nat → Int32) (s_W0_there : Int32) (s_W0_kind : Int32) (s_W0_size : Int32) (s_W0_lineCount : Int32) (s_W0_sets : Nat → Int64) (s_W1_there : Int32) (s_W1_kind : Int32) (s_W1_size : Int32) (s_W1_lineCount : Int32) (s_W1_sets : Nat → Int64) (s_W2_there : Int32) (s_W2_kind : Int32) (s_W2_size : Int32) (s_W2_lineCount : Int32) (s_W2_sets : Nat → Int64) (s_W3_there : Int32) (s_W3_kind : Int32) (s_W3_size : Int32) (s_W3_lineCount : Int32) (s_W3_sets : Nat → Int64) (s_W4_there : Int32) (s_W4_kind : Int32) (s_W4_size : Int32) (s_W4_lineCount : Int32) (s_W4_sets : Nat → Int64) (s_W5_there : Int32) (s_W5_kind : Int32) (s_W5_size : Int32) (s_W5_lineCount : Int32) (s_W5_sets : Nat → Int64) (s_p0_rowPlaces : Nat → Option Nat) (s_p0_rowSizes : Nat → Int32) (s_p0_worlds : Nat → Option Nat) (o_W0 : Nat) (o_W1 : Nat) (o_W2 : Nat) (o_W3 : Nat) (o_W4 : Nat) (o_W5 : Nat) (o_R0 : Nat) (o_R1 : Nat) (o_R2 : Nat) (o_R3 : Nat) (Q : Int64 → Prop) : Nat → (Int64) → (Int32) → Prop
  | 0 => fun _ _ => False
  | n_ + 1 => w_X6_digest_31s s_R0 s_R1 s_R2 s_R3 s_W0_there s_W0_kind s_W0_size s_W0_lineCount s_W0_sets s_W1_there s_W1_kind s_W1_size s_W1_lineCount s_W1_sets s_W2_there s_W2_kind s_W2_size s_W2_lineCount s_W2_sets s_W3_there s_W3_kind s_W3_size s_W3_lineCount s_W3_sets s_W4_there s_W4_kind s_W4_size s_W4_lineCount s_W4_sets s_W5_there s_W5_kind s_W5_size s_W5_lineCount s_W5_sets s_p0_rowPlaces s_p0_rowSizes s_p0_worlds o_W0 o_W1 o_W2 o_W3 o_W4 o_W5 o_R0 o_R1 o_R2 o_R3 Q (w_X6_digest_31 s_R0 s_R1 s_R2 s_R3 s_W0_there s_W0_kind s_W0_size s_W0_lineCount s_W0_sets s_W1_there s_W1_kind s_W1_size s_W1_lineCount s_W1_sets s_W2_there s_W2_kind s_W2_size s_W2_lineCount s_W2_sets s_W3_there s_W3_kind s_W3_size s_W3_lineCount s_W3_sets s_W4_there s_W4_kind s_W4_size s_W4_lineCount s_W4_sets s_W5_there s_W5_kind s_W5_size s_W5_lineCount s_W5_sets s_p0_rowPlaces s_p0_rowSizes s_p0_worlds o_W0 o_W1 o_W2 o_W3 o_W4 o_W5 o_R0 o_R1 o_R2 o_R3 Q n_)
def w_X6_digest_6s (s_R0 : Nat → Int32) (s_R1 : Nat → Int32) (s_R2 : Nat → Int32) (s_R3 : Nat → Int32) (s_W0_there : Int32) (s_W0_kind : Int32) (s_W0_size : Int32) (s_W0_lineCount : Int32) (s_W0_sets : Nat → Int64) (s_W1_there : Int32) (s_W1_kind : Int32) (s_W1_size : Int32) (s_W1_lineCount : Int32) (s_W1_sets : Nat → Int64) (s_W2_there : Int32) (s_W2_kind : Int32) (s_W2_size : Int32) (s_W2_lineCount : Int32) (s_W2_sets : Nat → Int64) (s_W3_there : Int32) (s_W3_kind : Int32) (s_W3_size : Int32) (s_W3_lineCount : Int32) (s_W3_sets : Nat → Int64) (s_W4_there : Int32) (s_W4_kind : Int32) (s_W4_size : Int32) (s_W4_lineCount : Int32) (s_W4_sets : Nat → Int64) (s_W5_there : Int32) (s_W5_kind : Int32) (s_W5_size : Int32) (s_W5_lineCount : Int32) (s_W5_sets : Nat → Int64) (s_p0_rowPlaces : Nat → Option Nat) (s_p0_rowSizes : Nat → Int32) (s_p0_worlds : Nat → Option Nat) (o_W0 : Nat) (o_W1 : Nat) (o_W2 : Nat) (o_W3 : Nat) (o_W4 : Nat) (o_W5 : Nat) (o_R0 : Nat) (o_R1 : Nat) (o_R2 : Nat) (o_R3 : Nat) (Q : Int64 → Prop) (K_6 : (Int64) → (Int32) → Prop) (x_1 : Int64) (x_3 : Int32) : Prop := (((6 : Int32) ≤ x_3 → (∃ n_, w_X6_digest_31 s_R0 s_R1 s_R2 s_R3 s_W0_there s_W0_kind s_W0_size s_W0_lineCount s_W0_sets s_W1_there s_W1_kind s_W1_size s_W1_lineCount s_W1_sets s_W2_there s_W2_kind s_W2_size s_W2_lineCount s_W2_sets s_W3_there s_W3_kind s_W3_size s_W3_lineCount s_W3_sets s_W4_there s_W4_kind s_W4_size s_W4_lineCount s_W4_sets s_W5_there s_W5_kind s_W5_size s_W5_lineCount s_W5_sets s_p0_rowPlaces s_p0_rowSizes s_p0_worlds o_W0 o_W1 o_W2 o_W3 o_W4 o_W5 o_R0 o_R1 o_R2 o_R3 Q n_ x_1 (0 : Int32))) ∧ (¬ (6 : Int32) ≤ x_3 → (vp_in x_3 6 ∧ (x_3 = 0 → s_p0_worlds (x_3).toNatClampNeg = some o_W0 ∧ (w_X5_digestOn x_1 s_W0_there s_W0_kind s_W0_size s_W0_lineCount s_W0_sets (fun (r_19 : Int64) => (K_6 r_19 (x_3 + (1 : Int32)))))) ∧ (x_3 = 1 → s_p0_worlds (x_3).toNatClampNeg = some o_W1 ∧ (w_X5_digestOn x_1 s_W1_there s_W1_kind s_W1_size s_W1_lineCount s_W1_sets (fun (r_19 : Int64) => (K_6 r_19 (x_3 + (1 : Int32)))))) ∧ (x_3 = 2 → s_p0_worlds (x_3).toNatClampNeg = some o_W2 ∧ (w_X5_digestOn x_1 s_W2_there s_W2_kind s_W2_size s_W2_lineCount s_W2_sets (fun (r_19 : Int64) => (K_6 r_19 (x_3 + (1 : Int32)))))) ∧ (x_3 = 3 → s_p0_worlds (x_3).toNatClampNeg = some o_W3 ∧ (w_X5_digestOn x_1 s_W3_there s_W3_kind s_W3_size s_W3_lineCount s_W3_sets (fun (r_19 : Int64) => (K_6 r_19 (x_3 + (1 : Int32)))))) ∧ (x_3 = 4 → s_p0_worlds (x_3).toNatClampNeg = some o_W4 ∧ (w_X5_digestOn x_1 s_W4_there s_W4_kind s_W4_size s_W4_lineCount s_W4_sets (fun (r_19 : Int64) => (K_6 r_19 (x_3 + (1 : Int32)))))) ∧ (x_3 = 5 → s_p0_worlds (x_3).toNatClampNeg = some o_W5 ∧ (w_X5_digestOn x_1 s_W5_there s_W5_kind s_W5_size s_W5_lineCount s_W5_sets (fun (r_19 : Int64) => (K_6 r_19 (x_3 + (1 : Int32)))))))))
def w_X6_digest_6 (s_R0 : Nat → Int32) (s_R1 : Nat → Int32) (s_R2 : Nat → Int32) (s_R3 : Nat → Int32) (s_W0_there : Int32) (s_W0_kind : Int32) (s_W0_size : Int32) (s_W0_lineCount : Int32) (s_W0_sets : Nat → Int64) (s_W1_there : Int32) (s_W1_kind : Int32) (s_W1_size : Int32) (s_W1_lineCount : Int32) (s_W1_sets : Nat → Int64) (s_W2_there : Int32) (s_W2_kind : Int32) (s_W2_size : Int32) (s_W2_lineCount : Int32) (s_W2_sets : Nat → Int64) (s_W3_there : Int32) (s_W3_kind : Int32) (s_W3_size : Int32) (s_W3_lineCount : Int32) (s_W3_sets : Nat → Int64) (s_W4_there : Int32) (s_W4_kind : Int32) (s_W4_size : Int32) (s_W4_lineCount : Int32) (s_W4_sets : Nat → Int64) (s_W5_there : Int32) (s_W5_kind : Int32) (s_W5_size : Int32) (s_W5_lineCount : Int32) (s_W5_sets : Nat → Int64) (s_p0_rowPlaces : Nat → Option Nat) (s_p0_rowSizes : Nat → Int32) (s_p0_worlds : Nat → Option Nat) (o_W0 : Nat) (o_W1 : Nat) (o_W2 : Nat) (o_W3 : Nat) (o_W4 : Nat) (o_W5 : Nat) (o_R0 : Nat) (o_R1 : Nat) (o_R2 : Nat) (o_R3 : Nat) (Q : Int64 → Prop) : Nat → (Int64) → (Int32) → Prop
  | 0 => fun _ _ => False
  | n_ + 1 => w_X6_digest_6s s_R0 s_R1 s_R2 s_R3 s_W0_there s_W0_kind s_W0_size s_W0_lineCount s_W0_sets s_W1_there s_W1_kind s_W1_size s_W1_lineCount s_W1_sets s_W2_there s_W2_kind s_W2_size s_W2_lineCount s_W2_sets s_W3_there s_W3_kind s_W3_size s_W3_lineCount s_W3_sets s_W4_there s_W4_kind s_W4_size s_W4_lineCount s_W4_sets s_W5_there s_W5_kind s_W5_size s_W5_lineCount s_W5_sets s_p0_rowPlaces s_p0_rowSizes s_p0_worlds o_W0 o_W1 o_W2 o_W3 o_W4 o_W5 o_R0 o_R1 o_R2 o_R3 Q (w_X6_digest_6 s_R0 s_R1 s_R2 s_R3 s_W0_there s_W0_kind s_W0_size s_W0_lineCount s_W0_sets s_W1_there s_W1_kind s_W1_size s_W1_lineCount s_W1_sets s_W2_there s_W2_kind s_W2_size s_W2_lineCount s_W2_sets s_W3_there s_W3_kind s_W3_size s_W3_lineCount s_W3_sets s_W4_there s_W4_kind s_W4_size s_W4_lineCount s_W4_sets s_W5_there s_W5_kind s_W5_size s_W5_lineCount s_W5_sets s_p0_rowPlaces s_p0_rowSizes s_p0_worlds o_W0 o_W1 o_W2 o_W3 o_W4 o_W5 o_R0 o_R1 o_R2 o_R3 Q n_)
def w_X6_digest (s_R0 : Nat → Int32) (s_R1 : Nat → Int32) (s_R2 : Nat → Int32) (s_R3 : Nat → Int32) (s_W0_there : Int32) (s_W0_kind : Int32) (s_W0_size : Int32) (s_W0_lineCount : Int32) (s_W0_sets : Nat → Int64) (s_W1_there : Int32) (s_W1_kind : Int32) (s_W1_size : Int32) (s_W1_lineCount : Int32) (s_W1_sets : Nat → Int64) (s_W2_there : Int32) (s_W2_kind : Int32) (s_W2_size : Int32) (s_W2_lineCount : Int32) (s_W2_sets : Nat → Int64) (s_W3_there : Int32) (s_W3_kind : Int32) (s_W3_size : Int32) (s_W3_lineCount : Int32) (s_W3_sets : Nat → Int64) (s_W4_there : Int32) (s_W4_kind : Int32) (s_W4_size : Int32) (s_W4_lineCount : Int32) (s_W4_sets : Nat → Int64) (s_W5_there : Int32) (s_W5_kind : Int32) (s_W5_size : Int32) (s_W5_lineCount : Int32) (s_W5_sets : Nat → Int64) (s_p0_rowPlaces : Nat → Option Nat) (s_p0_rowSizes : Nat → Int32) (s_p0_worlds : Nat → Option Nat) (o_W0 : Nat) (o_W1 : Nat) (o_W2 : Nat) (o_W3 : Nat) (o_W4 : Nat) (o_W5 : Nat) (o_R0 : Nat) (o_R1 : Nat) (o_R2 : Nat) (o_R3 : Nat) (Q : Int64 → Prop) : Prop := (∃ n_, w_X6_digest_6 s_R0 s_R1 s_R2 s_R3 s_W0_there s_W0_kind s_W0_size s_W0_lineCount s_W0_sets s_W1_there s_W1_kind s_W1_size s_W1_lineCount s_W1_sets s_W2_there s_W2_kind s_W2_size s_W2_lineCount s_W2_sets s_W3_there s_W3_kind s_W3_size s_W3_lineCount s_W3_sets s_W4_there s_W4_kind s_W4_size s_W4_lineCount s_W4_sets s_W5_there s_W5_kind s_W5_size s_W5_lineCount s_W5_sets s_p0_rowPlaces s_p0_rowSizes s_p0_worlds o_W0 o_W1 o_W2 o_W3 o_W4 o_W5 o_R0 o_R1 o_R2 o_R3 Q n_ (17 : Int64) (0 : Int32))
-- X6_digest
theorem iX6_digest_X6 : ∀ w ∈ wsX60, w ∈ wsX6_digest := by decide +kernel
set_option maxHeartbeats 4000000 in
set_option maxRecDepth 100000 in
theorem k_X6_digest_53 {E : vE} {T : Nat → ClassId} {o_p0 : Nat} {a_p0 : Nat → Nat} {o_S : Nat} {o_R0 : Nat} {o_R1 : Nat} {o_R2 : Nat} {o_R3 : Nat} {o_W0 : Nat} {a_W0 : Nat → Nat} {o_W1 : Nat} {a_W1 : Nat → Nat} {o_W2 : Nat} {a_W2 : Nat → Nat} {o_W3 : Nat} {a_W3 : Nat → Nat} {o_W4 : Nat} {a_W4 : Nat → Nat} {o_W5 : Nat} {a_W5 : Nat → Nat} {s_p0_sentSize : Int32} {s_p0_latestFinding : Int32} {s_p0_latestTries : Int32} {s_p0_latestAsked : Int64} {s_R0 : Nat → Int32} {s_R1 : Nat → Int32} {s_R2 : Nat → Int32} {s_R3 : Nat → Int32} {s_W0_there : Int32} {s_W0_kind : Int32} {s_W0_tag : Int32} {s_W0_size : Int32} {s_W0_lineCount : Int32} {s_W0_sets : Nat → Int64} {s_W1_there : Int32} {s_W1_kind : Int32} {s_W1_tag : Int32} {s_W1_size : Int32} {s_W1_lineCount : Int32} {s_W1_sets : Nat → Int64} {s_W2_there : Int32} {s_W2_kind : Int32} {s_W2_tag : Int32} {s_W2_size : Int32} {s_W2_lineCount : Int32} {s_W2_sets : Nat → Int64} {s_W3_there : Int32} {s_W3_kind : Int32} {s_W3_tag : Int32} {s_W3_size : Int32} {s_W3_lineCount : Int32} {s_W3_sets : Nat → Int64} {s_W4_there : Int32} {s_W4_kind : Int32} {s_W4_tag : Int32} {s_W4_size : Int32} {s_W4_lineCount : Int32} {s_W4_sets : Nat → Int64} {s_W5_there : Int32} {s_W5_kind : Int32} {s_W5_tag : Int32} {s_W5_size : Int32} {s_W5_lineCount : Int32} {s_W5_sets : Nat → Int64} {s_p0_rowPlaces : Nat → Option Nat} {s_p0_rowSizes : Nat → Int32} {s_p0_worlds : Nat → Option Nat} {x_3 : Int32} {K_31 : (Int64) → (Int32) → Prop} {Q : Int64 → Prop} (X : vX E cX6_digest 5 RX6 wsX6_digest (vT T) (vr 1 25)) (r : r_X6_digest E T o_p0 a_p0 o_S o_R0 o_R1 o_R2 o_R3 o_W0 a_W0 o_W1 a_W1 o_W2 a_W2 o_W3 a_W3 o_W4 a_W4 o_W5 a_W5 s_p0_sentSize s_p0_latestFinding s_p0_latestTries s_p0_latestAsked s_R0 s_R1 s_R2 s_R3 s_W0_there s_W0_kind s_W0_tag s_W0_size s_W0_lineCount s_W0_sets s_W1_there s_W1_kind s_W1_tag s_W1_size s_W1_lineCount s_W1_sets s_W2_there s_W2_kind s_W2_tag s_W2_size s_W2_lineCount s_W2_sets s_W3_there s_W3_kind s_W3_tag s_W3_size s_W3_lineCount s_W3_sets s_W4_there s_W4_kind s_W4_tag s_W4_size s_W4_lineCount s_W4_sets s_W5_there s_W5_kind s_W5_tag s_W5_size s_W5_lineCount s_W5_sets s_p0_rowPlaces s_p0_rowSizes s_p0_worlds Q) (hK_31 : ∀ (x_1' : Int64) (x_3' : Int32), K_31 x_1' x_3' → V E 0 0 31 [(0, .ref o_p0), (1, .long x_1'), (3, .int x_3')] [] (cl_X6_digest T o_p0 a_p0 o_S o_R0 o_R1 o_R2 o_R3 o_W0 a_W0 o_W1 a_W1 o_W2 a_W2 o_W3 a_W3 o_W4 a_W4 o_W5 a_W5 s_p0_sentSize s_p0_latestFinding s_p0_latestTries s_p0_latestAsked s_R0 s_R1 s_R2 s_R3 s_W0_there s_W0_kind s_W0_tag s_W0_size s_W0_lineCount s_W0_sets s_W1_there s_W1_kind s_W1_tag s_W1_size s_W1_lineCount s_W1_sets s_W2_there s_W2_kind s_W2_tag s_W2_size s_W2_lineCount s_W2_sets s_W3_there s_W3_kind s_W3_tag s_W3_size s_W3_lineCount s_W3_sets s_W4_there s_W4_kind s_W4_tag s_W4_size s_W4_lineCount s_W4_sets s_W5_there s_W5_kind s_W5_tag s_W5_size s_W5_lineCount s_W5_sets s_p0_rowPlaces s_p0_rowSizes s_p0_worlds)) : ∀ (n_ : Nat) (x_1 : Int64) (x_4 : Int32), w_X6_digest_53 x_3 s_R0 s_R1 s_R2 s_R3 s_W0_there s_W0_kind s_W0_size s_W0_lineCount s_W0_sets s_W1_there s_W1_kind s_W1_size s_W1_lineCount s_W1_sets s_W2_there s_W2_kind s_W2_size s_W2_lineCount s_W2_sets s_W3_there s_W3_kind s_W3_size s_W3_lineCount s_W3_sets s_W4_there s_W4_kind s_W4_size s_W4_lineCount s_W4_sets s_W5_there s_W5_kind s_W5_size s_W5_lineCount s_W5_sets s_p0_rowPlaces s_p0_rowSizes s_p0_worlds o_W0 o_W1 o_W2 o_W3 o_W4 o_W5 o_R0 o_R1 o_R2 o_R3 K_31 Q n_ x_1 x_4 → V E 0 0 53 [(0, .ref o_p0), (1, .long x_1), (3, .int x_3), (4, .int x_4)] [] (cl_X6_digest T o_p0 a_p0 o_S o_R0 o_R1 o_R2 o_R3 o_W0 a_W0 o_W1 a_W1 o_W2 a_W2 o_W3 a_W3 o_W4 a_W4 o_W5 a_W5 s_p0_sentSize s_p0_latestFinding s_p0_latestTries s_p0_latestAsked s_R0 s_R1 s_R2 s_R3 s_W0_there s_W0_kind s_W0_tag s_W0_size s_W0_lineCount s_W0_sets s_W1_there s_W1_kind s_W1_tag s_W1_size s_W1_lineCount s_W1_sets s_W2_there s_W2_kind s_W2_tag s_W2_size s_W2_lineCount s_W2_sets s_W3_there s_W3_kind s_W3_tag s_W3_size s_W3_lineCount s_W3_sets s_W4_there s_W4_kind s_W4_tag s_W4_size s_W4_lineCount s_W4_sets s_W5_there s_W5_kind s_W5_tag s_W5_size s_W5_lineCount s_W5_sets s_p0_rowPlaces s_p0_rowSizes s_p0_worlds) := by
  intro n_
  induction n_ with
  | zero => intro x_1 x_4 h; exact h.elim
  | succ n_ hK_53 =>
    intro x_1 x_4 h
    replace h : w_X6_digest_53s x_3 s_R0 s_R1 s_R2 s_R3 s_W0_there s_W0_kind s_W0_size s_W0_lineCount s_W0_sets s_W1_there s_W1_kind s_W1_size s_W1_lineCount s_W1_sets s_W2_there s_W2_kind s_W2_size s_W2_lineCount s_W2_sets s_W3_there s_W3_kind s_W3_size s_W3_lineCount s_W3_sets s_W4_there s_W4_kind s_W4_size s_W4_lineCount s_W4_sets s_W5_there s_W5_kind s_W5_size s_W5_lineCount s_W5_sets s_p0_rowPlaces s_p0_rowSizes s_p0_worlds o_W0 o_W1 o_W2 o_W3 o_W4 o_W5 o_R0 o_R1 o_R2 o_R3 K_31 Q (w_X6_digest_53 x_3 s_R0 s_R1 s_R2 s_R3 s_W0_there s_W0_kind s_W0_size s_W0_lineCount s_W0_sets s_W1_there s_W1_kind s_W1_size s_W1_lineCount s_W1_sets s_W2_there s_W2_kind s_W2_size s_W2_lineCount s_W2_sets s_W3_there s_W3_kind s_W3_size s_W3_lineCount s_W3_sets s_W4_there s_W4_kind s_W4_size s_W4_lineCount s_W4_sets s_W5_there s_W5_kind s_W5_size s_W5_lineCount s_W5_sets s_p0_rowPlaces s_p0_rowSizes s_p0_worlds o_W0 o_W1 o_W2 o_W3 o_W4 o_W5 o_R0 o_R1 o_R2 o_R3 K_31 Q n_) x_1 x_4 := h
    unfold w_X6_digest_53s at h
    refine v_iload X 3 dX6_digest_53 rfl ?_
    refine v_aload_n X 0 dX6_digest_55 rfl rfl ?_
    refine v_get X 0 2 (F := TX6) (N := 13) iX6_digest_X6 rfl rfl (by decide) (List.mem_of_getElem? (i := 4) rfl) rfl rfl dX6_digest_56 ?_
    refine v_iload_n X 2 dX6_digest_59 rfl rfl ?_
    refine v_iald X 18 0 rfl rfl h.1 dX6_digest_60 ?_
    replace h := h.2
    refine v_icmp_ge X (tgt := 87) dX6_digest_61 (by decide) (fun c_61 => ?_) (fun c_61 => ?_)
    · replace h := h.1 c_61
      refine v_iinc X (v := (x_3 + (1 : Int32))) (lv' := [(3, .int (x_3 + (1 : Int32))), (0, .ref o_p0), (1, .long x_1), (4, .int x_4)]) 2 dX6_digest_87 rfl rfl (by decide) rfl ?_
      refine v_goto X (tgt := 31) dX6_digest_90 (by decide) ?_
      refine v_lv (lv' := [(0, .ref o_p0), (1, .long x_1), (3, .int (x_3 + (1 : Int32)))]) [1, 2, 0] rfl ?_
      exact hK_31 _ _ h
    · replace h := h.2 c_61
      refine v_ldc2 X (v := (31 : Int64)) (List.mem_of_getElem? (i := 3) rfl) dX6_digest_64 ?_
      refine v_lload_n X 1 dX6_digest_67 rfl rfl ?_
      refine v_lmul X dX6_digest_68 ?_
      refine v_aload_n X 0 dX6_digest_69 rfl rfl ?_
      refine v_get X 0 1 (F := TX6) (N := 13) iX6_digest_X6 rfl rfl (by decide) (List.mem_of_getElem? (i := 5) rfl) rfl rfl dX6_digest_70 ?_
      refine v_iload_n X 2 dX6_digest_73 rfl rfl ?_
      have c_74 := h.1
      replace h := h.2
      have c2_74 := vin_4 c_74
      rcases c2_74 with c3_74 | c3_74 | c3_74 | c3_74
      · replace h := h.1 c3_74
        refine v_aaldA X 17 3 rfl rfl c_74 h.1 dX6_digest_74 ?_
        replace h := h.2
        refine v_iload X 3 dX6_digest_75 rfl ?_
        refine v_iald X 1 0 rfl rfl h.1 dX6_digest_77 ?_
        replace h := h.2
        refine v_i2l X dX6_digest_78 ?_
        refine v_ladd X dX6_digest_79 ?_
        refine v_lstore_n X (lv' := [(1, .long (((31 : Int64) * x_1) + ((s_R0 (x_4).toNatClampNeg)).toInt64)), (0, .ref o_p0), (3, .int x_3), (4, .int x_4)]) dX6_digest_80 rfl (by decide) rfl ?_
        refine v_iinc X (v := (x_4 + (1 : Int32))) (lv' := [(4, .int (x_4 + (1 : Int32))), (1, .long (((31 : Int64) * x_1) + ((s_R0 (x_4).toNatClampNeg)).toInt64)), (0, .ref o_p0), (3, .int x_3)]) 3 dX6_digest_81 rfl rfl (by decide) rfl ?_
        refine v_goto X (tgt := 53) dX6_digest_84 (by decide) ?_
        refine v_lv (lv' := [(0, .ref o_p0), (1, .long (((31 : Int64) * x_1) + ((s_R0 (x_4).toNatClampNeg)).toInt64)), (3, .int x_3), (4, .int (x_4 + (1 : Int32)))]) [2, 1, 3, 0] rfl ?_
        exact hK_53 _ _ h
      · replace h := h.2.1 c3_74
        refine v_aaldA X 17 3 rfl rfl c_74 h.1 dX6_digest_74 ?_
        replace h := h.2
        refine v_iload X 3 dX6_digest_75 rfl ?_
        refine v_iald X 2 0 rfl rfl h.1 dX6_digest_77 ?_
        replace h := h.2
        refine v_i2l X dX6_digest_78 ?_
        refine v_ladd X dX6_digest_79 ?_
        refine v_lstore_n X (lv' := [(1, .long (((31 : Int64) * x_1) + ((s_R1 (x_4).toNatClampNeg)).toInt64)), (0, .ref o_p0), (3, .int x_3), (4, .int x_4)]) dX6_digest_80 rfl (by decide) rfl ?_
        refine v_iinc X (v := (x_4 + (1 : Int32))) (lv' := [(4, .int (x_4 + (1 : Int32))), (1, .long (((31 : Int64) * x_1) + ((s_R1 (x_4).toNatClampNeg)).toInt64)), (0, .ref o_p0), (3, .int x_3)]) 3 dX6_digest_81 rfl rfl (by decide) rfl ?_
        refine v_goto X (tgt := 53) dX6_digest_84 (by decide) ?_
        refine v_lv (lv' := [(0, .ref o_p0), (1, .long (((31 : Int64) * x_1) + ((s_R1 (x_4).toNatClampNeg)).toInt64)), (3, .int x_3), (4, .int (x_4 + (1 : Int32)))]) [2, 1, 3, 0] rfl ?_
        exact hK_53 _ _ h
      · replace h := h.2.2.1 c3_74
        refine v_aaldA X 17 3 rfl rfl c_74 h.1 dX6_digest_74 ?_
        replace h := h.2
        refine v_iload X 3 dX6_digest_75 rfl ?_
        refine v_iald X 3 0 rfl rfl h.1 dX6_digest_77 ?_
        replace h := h.2
        refine v_i2l X dX6_digest_78 ?_
        refine v_ladd X dX6_digest_79 ?_
        refine v_lstore_n X (lv' := [(1, .long (((31 : Int64) * x_1) + ((s_R2 (x_4).toNatClampNeg)).toInt64)), (0, .ref o_p0), (3, .int x_3), (4, .int x_4)]) dX6_digest_80 rfl (by decide) rfl ?_
        refine v_iinc X (v := (x_4 + (1 : Int32))) (lv' := [(4, .int (x_4 + (1 : Int32))), (1, .long (((31 : Int64) * x_1) + ((s_R2 (x_4).toNatClampNeg)).toInt64)), (0, .ref o_p0), (3, .int x_3)]) 3 dX6_digest_81 rfl rfl (by decide) rfl ?_
        refine v_goto X (tgt := 53) dX6_digest_84 (by decide) ?_
        refine v_lv (lv' := [(0, .ref o_p0), (1, .long (((31 : Int64) * x_1) + ((s_R2 (x_4).toNatClampNeg)).toInt64)), (3, .int x_3), (4, .int (x_4 + (1 : Int32)))]) [2, 1, 3, 0] rfl ?_
        exact hK_53 _ _ h
      · replace h := h.2.2.2 c3_74
        refine v_aaldA X 17 3 rfl rfl c_74 h.1 dX6_digest_74 ?_
        replace h := h.2
        refine v_iload X 3 dX6_digest_75 rfl ?_
        refine v_iald X 4 0 rfl rfl h.1 dX6_digest_77 ?_
        replace h := h.2
        refine v_i2l X dX6_digest_78 ?_
        refine v_ladd X dX6_digest_79 ?_
        refine v_lstore_n X (lv' := [(1, .long (((31 : Int64) * x_1) + ((s_R3 (x_4).toNatClampNeg)).toInt64)), (0, .ref o_p0), (3, .int x_3), (4, .int x_4)]) dX6_digest_80 rfl (by decide) rfl ?_
        refine v_iinc X (v := (x_4 + (1 : Int32))) (lv' := [(4, .int (x_4 + (1 : Int32))), (1, .long (((31 : Int64) * x_1) + ((s_R3 (x_4).toNatClampNeg)).toInt64)), (0, .ref o_p0), (3, .int x_3)]) 3 dX6_digest_81 rfl rfl (by decide) rfl ?_
        refine v_goto X (tgt := 53) dX6_digest_84 (by decide) ?_
        refine v_lv (lv' := [(0, .ref o_p0), (1, .long (((31 : Int64) * x_1) + ((s_R3 (x_4).toNatClampNeg)).toInt64)), (3, .int x_3), (4, .int (x_4 + (1 : Int32)))]) [2, 1, 3, 0] rfl ?_
        exact hK_53 _ _ h
set_option maxHeartbeats 4000000 in
set_option maxRecDepth 100000 in
theorem k_X6_digest_31 {E : vE} {T : Nat → ClassId} {o_p0 : Nat} {a_p0 : Nat → Nat} {o_S : Nat} {o_R0 : Nat} {o_R1 : Nat} {o_R2 : Nat} {o_R3 : Nat} {o_W0 : Nat} {a_W0 : Nat → Nat} {o_W1 : Nat} {a_W1 : Nat → Nat} {o_W2 : Nat} {a_W2 : Nat → Nat} {o_W3 : Nat} {a_W3 : Nat → Nat} {o_W4 : Nat} {a_W4 : Nat → Nat} {o_W5 : Nat} {a_W5 : Nat → Nat} {s_p0_sentSize : Int32} {s_p0_latestFinding : Int32} {s_p0_latestTries : Int32} {s_p0_latestAsked : Int64} {s_R0 : Nat → Int32} {s_R1 : Nat → Int32} {s_R2 : Nat → Int32} {s_R3 : Nat → Int32} {s_W0_there : Int32} {s_W0_kind : Int32} {s_W0_tag : Int32} {s_W0_size : Int32} {s_W0_lineCount : Int32} {s_W0_sets : Nat → Int64} {s_W1_there : Int32} {s_W1_kind : Int32} {s_W1_tag : Int32} {s_W1_size : Int32} {s_W1_lineCount : Int32} {s_W1_sets : Nat → Int64} {s_W2_there : Int32} {s_W2_kind : Int32} {s_W2_tag : Int32} {s_W2_size : Int32} {s_W2_lineCount : Int32} {s_W2_sets : Nat → Int64} {s_W3_there : Int32} {s_W3_kind : Int32} {s_W3_tag : Int32} {s_W3_size : Int32} {s_W3_lineCount : Int32} {s_W3_sets : Nat → Int64} {s_W4_there : Int32} {s_W4_kind : Int32} {s_W4_tag : Int32} {s_W4_size : Int32} {s_W4_lineCount : Int32} {s_W4_sets : Nat → Int64} {s_W5_there : Int32} {s_W5_kind : Int32} {s_W5_tag : Int32} {s_W5_size : Int32} {s_W5_lineCount : Int32} {s_W5_sets : Nat → Int64} {s_p0_rowPlaces : Nat → Option Nat} {s_p0_rowSizes : Nat → Int32} {s_p0_worlds : Nat → Option Nat} {Q : Int64 → Prop} (X : vX E cX6_digest 5 RX6 wsX6_digest (vT T) (vr 1 25)) (r : r_X6_digest E T o_p0 a_p0 o_S o_R0 o_R1 o_R2 o_R3 o_W0 a_W0 o_W1 a_W1 o_W2 a_W2 o_W3 a_W3 o_W4 a_W4 o_W5 a_W5 s_p0_sentSize s_p0_latestFinding s_p0_latestTries s_p0_latestAsked s_R0 s_R1 s_R2 s_R3 s_W0_there s_W0_kind s_W0_tag s_W0_size s_W0_lineCount s_W0_sets s_W1_there s_W1_kind s_W1_tag s_W1_size s_W1_lineCount s_W1_sets s_W2_there s_W2_kind s_W2_tag s_W2_size s_W2_lineCount s_W2_sets s_W3_there s_W3_kind s_W3_tag s_W3_size s_W3_lineCount s_W3_sets s_W4_there s_W4_kind s_W4_tag s_W4_size s_W4_lineCount s_W4_sets s_W5_there s_W5_kind s_W5_tag s_W5_size s_W5_lineCount s_W5_sets s_p0_rowPlaces s_p0_rowSizes s_p0_worlds Q) : ∀ (n_ : Nat) (x_1 : Int64) (x_3 : Int32), w_X6_digest_31 s_R0 s_R1 s_R2 s_R3 s_W0_there s_W0_kind s_W0_size s_W0_lineCount s_W0_sets s_W1_there s_W1_kind s_W1_size s_W1_lineCount s_W1_sets s_W2_there s_W2_kind s_W2_size s_W2_lineCount s_W2_sets s_W3_there s_W3_kind s_W3_size s_W3_lineCount s_W3_sets s_W4_there s_W4_kind s_W4_size s_W4_lineCount s_W4_sets s_W5_there s_W5_kind s_W5_size s_W5_lineCount s_W5_sets s_p0_rowPlaces s_p0_rowSizes s_p0_worlds o_W0 o_W1 o_W2 o_W3 o_W4 o_W5 o_R0 o_R1 o_R2 o_R3 Q n_ x_1 x_3 → V E 0 0 31 [(0, .ref o_p0), (1, .long x_1), (3, .int x_3)] [] (cl_X6_digest T o_p0 a_p0 o_S o_R0 o_R1 o_R2 o_R3 o_W0 a_W0 o_W1 a_W1 o_W2 a_W2 o_W3 a_W3 o_W4 a_W4 o_W5 a_W5 s_p0_sentSize s_p0_latestFinding s_p0_latestTries s_p0_latestAsked s_R0 s_R1 s_R2 s_R3 s_W0_there s_W0_kind s_W0_tag s_W0_size s_W0_lineCount s_W0_sets s_W1_there s_W1_kind s_W1_tag s_W1_size s_W1_lineCount s_W1_sets s_W2_there s_W2_kind s_W2_tag s_W2_size s_W2_lineCount s_W2_sets s_W3_there s_W3_kind s_W3_tag s_W3_size s_W3_lineCount s_W3_sets s_W4_there s_W4_kind s_W4_tag s_W4_size s_W4_lineCount s_W4_sets s_W5_there s_W5_kind s_W5_tag s_W5_size s_W5_lineCount s_W5_sets s_p0_rowPlaces s_p0_rowSizes s_p0_worlds) := by
  intro n_
  induction n_ with
  | zero => intro x_1 x_3 h; exact h.elim
  | succ n_ hK_31 =>
    intro x_1 x_3 h
    replace h : w_X6_digest_31s s_R0 s_R1 s_R2 s_R3 s_W0_there s_W0_kind s_W0_size s_W0_lineCount s_W0_sets s_W1_there s_W1_kind s_W1_size s_W1_lineCount s_W1_sets s_W2_there s_W2_kind s_W2_size s_W2_lineCount s_W2_sets s_W3_there s_W3_kind s_W3_size s_W3_lineCount s_W3_sets s_W4_there s_W4_kind s_W4_size s_W4_lineCount s_W4_sets s_W5_there s_W5_kind s_W5_size s_W5_lineCount s_W5_sets s_p0_rowPlaces s_p0_rowSizes s_p0_worlds o_W0 o_W1 o_W2 o_W3 o_W4 o_W5 o_R0 o_R1 o_R2 o_R3 Q (w_X6_digest_31 s_R0 s_R1 s_R2 s_R3 s_W0_there s_W0_kind s_W0_size s_W0_lineCount s_W0_sets s_W1_there s_W1_kind s_W1_size s_W1_lineCount s_W1_sets s_W2_there s_W2_kind s_W2_size s_W2_lineCount s_W2_sets s_W3_there s_W3_kind s_W3_size s_W3_lineCount s_W3_sets s_W4_there s_W4_kind s_W4_size s_W4_lineCount s_W4_sets s_W5_there s_W5_kind s_W5_size s_W5_lineCount s_W5_sets s_p0_rowPlaces s_p0_rowSizes s_p0_worlds o_W0 o_W1 o_W2 o_W3 o_W4 o_W5 o_R0 o_R1 o_R2 o_R3 Q n_) x_1 x_3 := h
    unfold w_X6_digest_31s at h
    refine v_iload_n X 2 dX6_digest_31 rfl rfl ?_
    refine v_iconst X dX6_digest_32 (v := (4 : Int32)) (by decide) ?_
    refine v_icmp_ge X (tgt := 93) dX6_digest_33 (by decide) (fun c_33 => ?_) (fun c_33 => ?_)
    · replace h := h.1 c_33
      refine v_lload_n X 1 dX6_digest_93 rfl rfl ?_
      exact r _ _ _ () _ dX6_digest_94 h rfl
    · replace h := h.2 c_33
      refine v_ldc2 X (v := (31 : Int64)) (List.mem_of_getElem? (i := 3) rfl) dX6_digest_36 ?_
      refine v_lload_n X 1 dX6_digest_39 rfl rfl ?_
      refine v_lmul X dX6_digest_40 ?_
      refine v_aload_n X 0 dX6_digest_41 rfl rfl ?_
      refine v_get X 0 2 (F := TX6) (N := 13) iX6_digest_X6 rfl rfl (by decide) (List.mem_of_getElem? (i := 4) rfl) rfl rfl dX6_digest_42 ?_
      refine v_iload_n X 2 dX6_digest_45 rfl rfl ?_
      refine v_iald X 18 0 rfl rfl h.1 dX6_digest_46 ?_
      replace h := h.2
      refine v_i2l X dX6_digest_47 ?_
      refine v_ladd X dX6_digest_48 ?_
      refine v_lstore_n X (lv' := [(1, .long (((31 : Int64) * x_1) + ((s_p0_rowSizes (x_3).toNatClampNeg)).toInt64)), (0, .ref o_p0), (3, .int x_3)]) dX6_digest_49 rfl (by decide) rfl ?_
      refine v_iconst X dX6_digest_50 (v := (0 : Int32)) (by decide) ?_
      refine v_istore X (lv' := [(4, .int (0 : Int32)), (1, .long (((31 : Int64) * x_1) + ((s_p0_rowSizes (x_3).toNatClampNeg)).toInt64)), (0, .ref o_p0), (3, .int x_3)]) dX6_digest_51 (by decide) rfl ?_
      refine v_lv (lv' := [(0, .ref o_p0), (1, .long (((31 : Int64) * x_1) + ((s_p0_rowSizes (x_3).toNatClampNeg)).toInt64)), (3, .int x_3), (4, .int (0 : Int32))]) [2, 1, 3, 0] rfl ?_
      obtain ⟨n_, h⟩ := h
      exact k_X6_digest_53 X r hK_31 n_ _ _ h
set_option maxHeartbeats 4000000 in
set_option maxRecDepth 100000 in
theorem k_X6_digest_6 {E : vE} {T : Nat → ClassId} {o_p0 : Nat} {a_p0 : Nat → Nat} {o_S : Nat} {o_R0 : Nat} {o_R1 : Nat} {o_R2 : Nat} {o_R3 : Nat} {o_W0 : Nat} {a_W0 : Nat → Nat} {o_W1 : Nat} {a_W1 : Nat → Nat} {o_W2 : Nat} {a_W2 : Nat → Nat} {o_W3 : Nat} {a_W3 : Nat → Nat} {o_W4 : Nat} {a_W4 : Nat → Nat} {o_W5 : Nat} {a_W5 : Nat → Nat} {s_p0_sentSize : Int32} {s_p0_latestFinding : Int32} {s_p0_latestTries : Int32} {s_p0_latestAsked : Int64} {s_R0 : Nat → Int32} {s_R1 : Nat → Int32} {s_R2 : Nat → Int32} {s_R3 : Nat → Int32} {s_W0_there : Int32} {s_W0_kind : Int32} {s_W0_tag : Int32} {s_W0_size : Int32} {s_W0_lineCount : Int32} {s_W0_sets : Nat → Int64} {s_W1_there : Int32} {s_W1_kind : Int32} {s_W1_tag : Int32} {s_W1_size : Int32} {s_W1_lineCount : Int32} {s_W1_sets : Nat → Int64} {s_W2_there : Int32} {s_W2_kind : Int32} {s_W2_tag : Int32} {s_W2_size : Int32} {s_W2_lineCount : Int32} {s_W2_sets : Nat → Int64} {s_W3_there : Int32} {s_W3_kind : Int32} {s_W3_tag : Int32} {s_W3_size : Int32} {s_W3_lineCount : Int32} {s_W3_sets : Nat → Int64} {s_W4_there : Int32} {s_W4_kind : Int32} {s_W4_tag : Int32} {s_W4_size : Int32} {s_W4_lineCount : Int32} {s_W4_sets : Nat → Int64} {s_W5_there : Int32} {s_W5_kind : Int32} {s_W5_tag : Int32} {s_W5_size : Int32} {s_W5_lineCount : Int32} {s_W5_sets : Nat → Int64} {s_p0_rowPlaces : Nat → Option Nat} {s_p0_rowSizes : Nat → Int32} {s_p0_worlds : Nat → Option Nat} {Q : Int64 → Prop} (X : vX E cX6_digest 5 RX6 wsX6_digest (vT T) (vr 1 25)) (r : r_X6_digest E T o_p0 a_p0 o_S o_R0 o_R1 o_R2 o_R3 o_W0 a_W0 o_W1 a_W1 o_W2 a_W2 o_W3 a_W3 o_W4 a_W4 o_W5 a_W5 s_p0_sentSize s_p0_latestFinding s_p0_latestTries s_p0_latestAsked s_R0 s_R1 s_R2 s_R3 s_W0_there s_W0_kind s_W0_tag s_W0_size s_W0_lineCount s_W0_sets s_W1_there s_W1_kind s_W1_tag s_W1_size s_W1_lineCount s_W1_sets s_W2_there s_W2_kind s_W2_tag s_W2_size s_W2_lineCount s_W2_sets s_W3_there s_W3_kind s_W3_tag s_W3_size s_W3_lineCount s_W3_sets s_W4_there s_W4_kind s_W4_tag s_W4_size s_W4_lineCount s_W4_sets s_W5_there s_W5_kind s_W5_tag s_W5_size s_W5_lineCount s_W5_sets s_p0_rowPlaces s_p0_rowSizes s_p0_worlds Q) : ∀ (n_ : Nat) (x_1 : Int64) (x_3 : Int32), w_X6_digest_6 s_R0 s_R1 s_R2 s_R3 s_W0_there s_W0_kind s_W0_size s_W0_lineCount s_W0_sets s_W1_there s_W1_kind s_W1_size s_W1_lineCount s_W1_sets s_W2_there s_W2_kind s_W2_size s_W2_lineCount s_W2_sets s_W3_there s_W3_kind s_W3_size s_W3_lineCount s_W3_sets s_W4_there s_W4_kind s_W4_size s_W4_lineCount s_W4_sets s_W5_there s_W5_kind s_W5_size s_W5_lineCount s_W5_sets s_p0_rowPlaces s_p0_rowSizes s_p0_worlds o_W0 o_W1 o_W2 o_W3 o_W4 o_W5 o_R0 o_R1 o_R2 o_R3 Q n_ x_1 x_3 → V E 0 0 6 [(0, .ref o_p0), (1, .long x_1), (3, .int x_3)] [] (cl_X6_digest T o_p0 a_p0 o_S o_R0 o_R1 o_R2 o_R3 o_W0 a_W0 o_W1 a_W1 o_W2 a_W2 o_W3 a_W3 o_W4 a_W4 o_W5 a_W5 s_p0_sentSize s_p0_latestFinding s_p0_latestTries s_p0_latestAsked s_R0 s_R1 s_R2 s_R3 s_W0_there s_W0_kind s_W0_tag s_W0_size s_W0_lineCount s_W0_sets s_W1_there s_W1_kind s_W1_tag s_W1_size s_W1_lineCount s_W1_sets s_W2_there s_W2_kind s_W2_tag s_W2_size s_W2_lineCount s_W2_sets s_W3_there s_W3_kind s_W3_tag s_W3_size s_W3_lineCount s_W3_sets s_W4_there s_W4_kind s_W4_tag s_W4_size s_W4_lineCount s_W4_sets s_W5_there s_W5_kind s_W5_tag s_W5_size s_W5_lineCount s_W5_sets s_p0_rowPlaces s_p0_rowSizes s_p0_worlds) := by
  intro n_
  induction n_ with
  | zero => intro x_1 x_3 h; exact h.elim
  | succ n_ hK_6 =>
    intro x_1 x_3 h
    replace h : w_X6_digest_6s s_R0 s_R1 s_R2 s_R3 s_W0_there s_W0_kind s_W0_size s_W0_lineCount s_W0_sets s_W1_there s_W1_kind s_W1_size s_W1_lineCount s_W1_sets s_W2_there s_W2_kind s_W2_size s_W2_lineCount s_W2_sets s_W3_there s_W3_kind s_W3_size s_W3_lineCount s_W3_sets s_W4_there s_W4_kind s_W4_size s_W4_lineCount s_W4_sets s_W5_there s_W5_kind s_W5_size s_W5_lineCount s_W5_sets s_p0_rowPlaces s_p0_rowSizes s_p0_worlds o_W0 o_W1 o_W2 o_W3 o_W4 o_W5 o_R0 o_R1 o_R2 o_R3 Q (w_X6_digest_6 s_R0 s_R1 s_R2 s_R3 s_W0_there s_W0_kind s_W0_size s_W0_lineCount s_W0_sets s_W1_there s_W1_kind s_W1_size s_W1_lineCount s_W1_sets s_W2_there s_W2_kind s_W2_size s_W2_lineCount s_W2_sets s_W3_there s_W3_kind s_W3_size s_W3_lineCount s_W3_sets s_W4_there s_W4_kind s_W4_size s_W4_lineCount s_W4_sets s_W5_there s_W5_kind s_W5_size s_W5_lineCount s_W5_sets s_p0_rowPlaces s_p0_rowSizes s_p0_worlds o_W0 o_W1 o_W2 o_W3 o_W4 o_W5 o_R0 o_R1 o_R2 o_R3 Q n_) x_1 x_3 := h
    unfold w_X6_digest_6s at h
    refine v_iload_n X 2 dX6_digest_6 rfl rfl ?_
    refine v_bipush X dX6_digest_7 (v := (6 : Int32)) (by decide) ?_
    refine v_icmp_ge X (tgt := 29) dX6_digest_9 (by decide) (fun c_9 => ?_) (fun c_9 => ?_)
    · replace h := h.1 c_9
      refine v_iconst X dX6_digest_29 (v := (0 : Int32)) (by decide) ?_
      refine v_istore_n X (lv' := [(3, .int (0 : Int32)), (0, .ref o_p0), (1, .long x_1)]) dX6_digest_30 rfl (by decide) rfl ?_
      refine v_lv (lv' := [(0, .ref o_p0), (1, .long x_1), (3, .int (0 : Int32))]) [1, 2, 0] rfl ?_
      obtain ⟨n_, h⟩ := h
      exact k_X6_digest_31 X r n_ _ _ h
    · replace h := h.2 c_9
      refine v_aload_n X 0 dX6_digest_12 rfl rfl ?_
      refine v_get X 0 0 (F := TX6) (N := 13) iX6_digest_X6 rfl rfl (by decide) (List.mem_of_getElem? (i := 2) rfl) rfl rfl dX6_digest_13 ?_
      refine v_iload_n X 2 dX6_digest_16 rfl rfl ?_
      have c_17 := h.1
      replace h := h.2
      have c2_17 := vin_6 c_17
      rcases c2_17 with c3_17 | c3_17 | c3_17 | c3_17 | c3_17 | c3_17
      · replace h := h.1 c3_17
        refine v_aald X 19 2 rfl rfl c_17 h.1 dX6_digest_17 ?_
        replace h := h.2
        refine v_lload_n X 1 dX6_digest_18 rfl rfl ?_
        refine v_callVl X (As := [.long x_1]) (rest := []) 1 0 (c_X5_digestOn (l := vl E) (D := vD E) (T := T) (o_p0 := o_W0) (a_p0 := a_W0) (s_p0_there := s_W0_there) (s_p0_kind := s_W0_kind) (s_p0_tag := s_W0_tag) (s_p0_size := s_W0_size) (s_p0_lineCount := s_W0_lineCount) (s_p0_sets := s_W0_sets) (x_1 := x_1) h) gX6_digest_X5_digestOn rfl rfl (by decide +kernel) ⟨Nat.zero_le _, Nat.zero_le _⟩ ⟨rfl, rfl, by decide, by decide⟩ (Nat.le_of_ble_eq_true rfl) rfl rfl (wr := [vO o_p0 3 [.ref (a_p0 0), .ref (a_p0 1), .ref (a_p0 2), .ref (a_p0 3), .ref (a_p0 4), .ref (a_p0 5), .ref (a_p0 6), .ref (a_p0 7), .ref o_S, .int s_p0_sentSize, .int s_p0_latestFinding, .int s_p0_latestTries, .long s_p0_latestAsked], vI T o_R0 12 s_R0, vI T o_R1 12 s_R1, vI T o_R2 12 s_R2, vI T o_R3 12 s_R3, vO o_W1 2 [.ref (a_W1 0), .ref (a_W1 1), .ref (a_W1 2), .int s_W1_there, .int s_W1_kind, .int s_W1_tag, .int s_W1_size, .int s_W1_lineCount], vJ T (a_W1 0) 45 s_W1_sets, vO o_W2 2 [.ref (a_W2 0), .ref (a_W2 1), .ref (a_W2 2), .int s_W2_there, .int s_W2_kind, .int s_W2_tag, .int s_W2_size, .int s_W2_lineCount], vJ T (a_W2 0) 45 s_W2_sets, vO o_W3 2 [.ref (a_W3 0), .ref (a_W3 1), .ref (a_W3 2), .int s_W3_there, .int s_W3_kind, .int s_W3_tag, .int s_W3_size, .int s_W3_lineCount], vJ T (a_W3 0) 45 s_W3_sets, vO o_W4 2 [.ref (a_W4 0), .ref (a_W4 1), .ref (a_W4 2), .int s_W4_there, .int s_W4_kind, .int s_W4_tag, .int s_W4_size, .int s_W4_lineCount], vJ T (a_W4 0) 45 s_W4_sets, vO o_W5 2 [.ref (a_W5 0), .ref (a_W5 1), .ref (a_W5 2), .int s_W5_there, .int s_W5_kind, .int s_W5_tag, .int s_W5_size, .int s_W5_lineCount], vJ T (a_W5 0) 45 s_W5_sets, vR T 3 (a_p0 1) 4 s_p0_rowPlaces, vI T (a_p0 2) 4 s_p0_rowSizes, vR T 2 (a_p0 0) 6 s_p0_worlds]) [5, 6] [0, 1, 2, 3, 4, 7, 8, 9, 10, 11, 12, 13, 14, 15, 16, 17, 18, 19] rfl rfl rfl rfl (by decide) rfl dX6_digest_19 (fun r_19 u h => ?_)
        refine v_ws (ws' := (cl_X6_digest T o_p0 a_p0 o_S o_R0 o_R1 o_R2 o_R3 o_W0 a_W0 o_W1 a_W1 o_W2 a_W2 o_W3 a_W3 o_W4 a_W4 o_W5 a_W5 s_p0_sentSize s_p0_latestFinding s_p0_latestTries s_p0_latestAsked s_R0 s_R1 s_R2 s_R3 s_W0_there s_W0_kind s_W0_tag s_W0_size s_W0_lineCount s_W0_sets s_W1_there s_W1_kind s_W1_tag s_W1_size s_W1_lineCount s_W1_sets s_W2_there s_W2_kind s_W2_tag s_W2_size s_W2_lineCount s_W2_sets s_W3_there s_W3_kind s_W3_tag s_W3_size s_W3_lineCount s_W3_sets s_W4_there s_W4_kind s_W4_tag s_W4_size s_W4_lineCount s_W4_sets s_W5_there s_W5_kind s_W5_tag s_W5_size s_W5_lineCount s_W5_sets s_p0_rowPlaces s_p0_rowSizes s_p0_worlds)) [0, 1, 2, 3, 4, 18, 19, 5, 6, 7, 8, 9, 10, 11, 12, 13, 14, 15, 16, 17] rfl rfl ?_
        refine v_lstore_n X (lv' := [(1, .long r_19), (0, .ref o_p0), (3, .int x_3)]) dX6_digest_22 rfl (by decide) rfl ?_
        refine v_iinc X (v := (x_3 + (1 : Int32))) (lv' := [(3, .int (x_3 + (1 : Int32))), (1, .long r_19), (0, .ref o_p0)]) 2 dX6_digest_23 rfl rfl (by decide) rfl ?_
        refine v_goto X (tgt := 6) dX6_digest_26 (by decide) ?_
        refine v_lv (lv' := [(0, .ref o_p0), (1, .long r_19), (3, .int (x_3 + (1 : Int32)))]) [2, 1, 0] rfl ?_
        exact hK_6 _ _ h
      · replace h := h.2.1 c3_17
        refine v_aald X 19 2 rfl rfl c_17 h.1 dX6_digest_17 ?_
        replace h := h.2
        refine v_lload_n X 1 dX6_digest_18 rfl rfl ?_
        refine v_callVl X (As := [.long x_1]) (rest := []) 1 0 (c_X5_digestOn (l := vl E) (D := vD E) (T := T) (o_p0 := o_W1) (a_p0 := a_W1) (s_p0_there := s_W1_there) (s_p0_kind := s_W1_kind) (s_p0_tag := s_W1_tag) (s_p0_size := s_W1_size) (s_p0_lineCount := s_W1_lineCount) (s_p0_sets := s_W1_sets) (x_1 := x_1) h) gX6_digest_X5_digestOn rfl rfl (by decide +kernel) ⟨Nat.zero_le _, Nat.zero_le _⟩ ⟨rfl, rfl, by decide, by decide⟩ (Nat.le_of_ble_eq_true rfl) rfl rfl (wr := [vO o_p0 3 [.ref (a_p0 0), .ref (a_p0 1), .ref (a_p0 2), .ref (a_p0 3), .ref (a_p0 4), .ref (a_p0 5), .ref (a_p0 6), .ref (a_p0 7), .ref o_S, .int s_p0_sentSize, .int s_p0_latestFinding, .int s_p0_latestTries, .long s_p0_latestAsked], vI T o_R0 12 s_R0, vI T o_R1 12 s_R1, vI T o_R2 12 s_R2, vI T o_R3 12 s_R3, vO o_W0 2 [.ref (a_W0 0), .ref (a_W0 1), .ref (a_W0 2), .int s_W0_there, .int s_W0_kind, .int s_W0_tag, .int s_W0_size, .int s_W0_lineCount], vJ T (a_W0 0) 45 s_W0_sets, vO o_W2 2 [.ref (a_W2 0), .ref (a_W2 1), .ref (a_W2 2), .int s_W2_there, .int s_W2_kind, .int s_W2_tag, .int s_W2_size, .int s_W2_lineCount], vJ T (a_W2 0) 45 s_W2_sets, vO o_W3 2 [.ref (a_W3 0), .ref (a_W3 1), .ref (a_W3 2), .int s_W3_there, .int s_W3_kind, .int s_W3_tag, .int s_W3_size, .int s_W3_lineCount], vJ T (a_W3 0) 45 s_W3_sets, vO o_W4 2 [.ref (a_W4 0), .ref (a_W4 1), .ref (a_W4 2), .int s_W4_there, .int s_W4_kind, .int s_W4_tag, .int s_W4_size, .int s_W4_lineCount], vJ T (a_W4 0) 45 s_W4_sets, vO o_W5 2 [.ref (a_W5 0), .ref (a_W5 1), .ref (a_W5 2), .int s_W5_there, .int s_W5_kind, .int s_W5_tag, .int s_W5_size, .int s_W5_lineCount], vJ T (a_W5 0) 45 s_W5_sets, vR T 3 (a_p0 1) 4 s_p0_rowPlaces, vI T (a_p0 2) 4 s_p0_rowSizes, vR T 2 (a_p0 0) 6 s_p0_worlds]) [7, 8] [0, 1, 2, 3, 4, 5, 6, 9, 10, 11, 12, 13, 14, 15, 16, 17, 18, 19] rfl rfl rfl rfl (by decide) rfl dX6_digest_19 (fun r_19 u h => ?_)
        refine v_ws (ws' := (cl_X6_digest T o_p0 a_p0 o_S o_R0 o_R1 o_R2 o_R3 o_W0 a_W0 o_W1 a_W1 o_W2 a_W2 o_W3 a_W3 o_W4 a_W4 o_W5 a_W5 s_p0_sentSize s_p0_latestFinding s_p0_latestTries s_p0_latestAsked s_R0 s_R1 s_R2 s_R3 s_W0_there s_W0_kind s_W0_tag s_W0_size s_W0_lineCount s_W0_sets s_W1_there s_W1_kind s_W1_tag s_W1_size s_W1_lineCount s_W1_sets s_W2_there s_W2_kind s_W2_tag s_W2_size s_W2_lineCount s_W2_sets s_W3_there s_W3_kind s_W3_tag s_W3_size s_W3_lineCount s_W3_sets s_W4_there s_W4_kind s_W4_tag s_W4_size s_W4_lineCount s_W4_sets s_W5_there s_W5_kind s_W5_tag s_W5_size s_W5_lineCount s_W5_sets s_p0_rowPlaces s_p0_rowSizes s_p0_worlds)) [0, 1, 2, 3, 4, 5, 6, 18, 19, 7, 8, 9, 10, 11, 12, 13, 14, 15, 16, 17] rfl rfl ?_
        refine v_lstore_n X (lv' := [(1, .long r_19), (0, .ref o_p0), (3, .int x_3)]) dX6_digest_22 rfl (by decide) rfl ?_
        refine v_iinc X (v := (x_3 + (1 : Int32))) (lv' := [(3, .int (x_3 + (1 : Int32))), (1, .long r_19), (0, .ref o_p0)]) 2 dX6_digest_23 rfl rfl (by decide) rfl ?_
        refine v_goto X (tgt := 6) dX6_digest_26 (by decide) ?_
        refine v_lv (lv' := [(0, .ref o_p0), (1, .long r_19), (3, .int (x_3 + (1 : Int32)))]) [2, 1, 0] rfl ?_
        exact hK_6 _ _ h
      · replace h := h.2.2.1 c3_17
        refine v_aald X 19 2 rfl rfl c_17 h.1 dX6_digest_17 ?_
        replace h := h.2
        refine v_lload_n X 1 dX6_digest_18 rfl rfl ?_
        refine v_callVl X (As := [.long x_1]) (rest := []) 1 0 (c_X5_digestOn (l := vl E) (D := vD E) (T := T) (o_p0 := o_W2) (a_p0 := a_W2) (s_p0_there := s_W2_there) (s_p0_kind := s_W2_kind) (s_p0_tag := s_W2_tag) (s_p0_size := s_W2_size) (s_p0_lineCount := s_W2_lineCount) (s_p0_sets := s_W2_sets) (x_1 := x_1) h) gX6_digest_X5_digestOn rfl rfl (by decide +kernel) ⟨Nat.zero_le _, Nat.zero_le _⟩ ⟨rfl, rfl, by decide, by decide⟩ (Nat.le_of_ble_eq_true rfl) rfl rfl (wr := [vO o_p0 3 [.ref (a_p0 0), .ref (a_p0 1), .ref (a_p0 2), .ref (a_p0 3), .ref (a_p0 4), .ref (a_p0 5), .ref (a_p0 6), .ref (a_p0 7), .ref o_S, .int s_p0_sentSize, .int s_p0_latestFinding, .int s_p0_latestTries, .long s_p0_latestAsked], vI T o_R0 12 s_R0, vI T o_R1 12 s_R1, vI T o_R2 12 s_R2, vI T o_R3 12 s_R3, vO o_W0 2 [.ref (a_W0 0), .ref (a_W0 1), .ref (a_W0 2), .int s_W0_there, .int s_W0_kind, .int s_W0_tag, .int s_W0_size, .int s_W0_lineCount], vJ T (a_W0 0) 45 s_W0_sets, vO o_W1 2 [.ref (a_W1 0), .ref (a_W1 1), .ref (a_W1 2), .int s_W1_there, .int s_W1_kind, .int s_W1_tag, .int s_W1_size, .int s_W1_lineCount], vJ T (a_W1 0) 45 s_W1_sets, vO o_W3 2 [.ref (a_W3 0), .ref (a_W3 1), .ref (a_W3 2), .int s_W3_there, .int s_W3_kind, .int s_W3_tag, .int s_W3_size, .int s_W3_lineCount], vJ T (a_W3 0) 45 s_W3_sets, vO o_W4 2 [.ref (a_W4 0), .ref (a_W4 1), .ref (a_W4 2), .int s_W4_there, .int s_W4_kind, .int s_W4_tag, .int s_W4_size, .int s_W4_lineCount], vJ T (a_W4 0) 45 s_W4_sets, vO o_W5 2 [.ref (a_W5 0), .ref (a_W5 1), .ref (a_W5 2), .int s_W5_there, .int s_W5_kind, .int s_W5_tag, .int s_W5_size, .int s_W5_lineCount], vJ T (a_W5 0) 45 s_W5_sets, vR T 3 (a_p0 1) 4 s_p0_rowPlaces, vI T (a_p0 2) 4 s_p0_rowSizes, vR T 2 (a_p0 0) 6 s_p0_worlds]) [9, 10] [0, 1, 2, 3, 4, 5, 6, 7, 8, 11, 12, 13, 14, 15, 16, 17, 18, 19] rfl rfl rfl rfl (by decide) rfl dX6_digest_19 (fun r_19 u h => ?_)
        refine v_ws (ws' := (cl_X6_digest T o_p0 a_p0 o_S o_R0 o_R1 o_R2 o_R3 o_W0 a_W0 o_W1 a_W1 o_W2 a_W2 o_W3 a_W3 o_W4 a_W4 o_W5 a_W5 s_p0_sentSize s_p0_latestFinding s_p0_latestTries s_p0_latestAsked s_R0 s_R1 s_R2 s_R3 s_W0_there s_W0_kind s_W0_tag s_W0_size s_W0_lineCount s_W0_sets s_W1_there s_W1_kind s_W1_tag s_W1_size s_W1_lineCount s_W1_sets s_W2_there s_W2_kind s_W2_tag s_W2_size s_W2_lineCount s_W2_sets s_W3_there s_W3_kind s_W3_tag s_W3_size s_W3_lineCount s_W3_sets s_W4_there s_W4_kind s_W4_tag s_W4_size s_W4_lineCount s_W4_sets s_W5_there s_W5_kind s_W5_tag s_W5_size s_W5_lineCount s_W5_sets s_p0_rowPlaces s_p0_rowSizes s_p0_worlds)) [0, 1, 2, 3, 4, 5, 6, 7, 8, 18, 19, 9, 10, 11, 12, 13, 14, 15, 16, 17] rfl rfl ?_
        refine v_lstore_n X (lv' := [(1, .long r_19), (0, .ref o_p0), (3, .int x_3)]) dX6_digest_22 rfl (by decide) rfl ?_
        refine v_iinc X (v := (x_3 + (1 : Int32))) (lv' := [(3, .int (x_3 + (1 : Int32))), (1, .long r_19), (0, .ref o_p0)]) 2 dX6_digest_23 rfl rfl (by decide) rfl ?_
        refine v_goto X (tgt := 6) dX6_digest_26 (by decide) ?_
        refine v_lv (lv' := [(0, .ref o_p0), (1, .long r_19), (3, .int (x_3 + (1 : Int32)))]) [2, 1, 0] rfl ?_
        exact hK_6 _ _ h
      · replace h := h.2.2.2.1 c3_17
        refine v_aald X 19 2 rfl rfl c_17 h.1 dX6_digest_17 ?_
        replace h := h.2
        refine v_lload_n X 1 dX6_digest_18 rfl rfl ?_
        refine v_callVl X (As := [.long x_1]) (rest := []) 1 0 (c_X5_digestOn (l := vl E) (D := vD E) (T := T) (o_p0 := o_W3) (a_p0 := a_W3) (s_p0_there := s_W3_there) (s_p0_kind := s_W3_kind) (s_p0_tag := s_W3_tag) (s_p0_size := s_W3_size) (s_p0_lineCount := s_W3_lineCount) (s_p0_sets := s_W3_sets) (x_1 := x_1) h) gX6_digest_X5_digestOn rfl rfl (by decide +kernel) ⟨Nat.zero_le _, Nat.zero_le _⟩ ⟨rfl, rfl, by decide, by decide⟩ (Nat.le_of_ble_eq_true rfl) rfl rfl (wr := [vO o_p0 3 [.ref (a_p0 0), .ref (a_p0 1), .ref (a_p0 2), .ref (a_p0 3), .ref (a_p0 4), .ref (a_p0 5), .ref (a_p0 6), .ref (a_p0 7), .ref o_S, .int s_p0_sentSize, .int s_p0_latestFinding, .int s_p0_latestTries, .long s_p0_latestAsked], vI T o_R0 12 s_R0, vI T o_R1 12 s_R1, vI T o_R2 12 s_R2, vI T o_R3 12 s_R3, vO o_W0 2 [.ref (a_W0 0), .ref (a_W0 1), .ref (a_W0 2), .int s_W0_there, .int s_W0_kind, .int s_W0_tag, .int s_W0_size, .int s_W0_lineCount], vJ T (a_W0 0) 45 s_W0_sets, vO o_W1 2 [.ref (a_W1 0), .ref (a_W1 1), .ref (a_W1 2), .int s_W1_there, .int s_W1_kind, .int s_W1_tag, .int s_W1_size, .int s_W1_lineCount], vJ T (a_W1 0) 45 s_W1_sets, vO o_W2 2 [.ref (a_W2 0), .ref (a_W2 1), .ref (a_W2 2), .int s_W2_there, .int s_W2_kind, .int s_W2_tag, .int s_W2_size, .int s_W2_lineCount], vJ T (a_W2 0) 45 s_W2_sets, vO o_W4 2 [.ref (a_W4 0), .ref (a_W4 1), .ref (a_W4 2), .int s_W4_there, .int s_W4_kind, .int s_W4_tag, .int s_W4_size, .int s_W4_lineCount], vJ T (a_W4 0) 45 s_W4_sets, vO o_W5 2 [.ref (a_W5 0), .ref (a_W5 1), .ref (a_W5 2), .int s_W5_there, .int s_W5_kind, .int s_W5_tag, .int s_W5_size, .int s_W5_lineCount], vJ T (a_W5 0) 45 s_W5_sets, vR T 3 (a_p0 1) 4 s_p0_rowPlaces, vI T (a_p0 2) 4 s_p0_rowSizes, vR T 2 (a_p0 0) 6 s_p0_worlds]) [11, 12] [0, 1, 2, 3, 4, 5, 6, 7, 8, 9, 10, 13, 14, 15, 16, 17, 18, 19] rfl rfl rfl rfl (by decide) rfl dX6_digest_19 (fun r_19 u h => ?_)
        refine v_ws (ws' := (cl_X6_digest T o_p0 a_p0 o_S o_R0 o_R1 o_R2 o_R3 o_W0 a_W0 o_W1 a_W1 o_W2 a_W2 o_W3 a_W3 o_W4 a_W4 o_W5 a_W5 s_p0_sentSize s_p0_latestFinding s_p0_latestTries s_p0_latestAsked s_R0 s_R1 s_R2 s_R3 s_W0_there s_W0_kind s_W0_tag s_W0_size s_W0_lineCount s_W0_sets s_W1_there s_W1_kind s_W1_tag s_W1_size s_W1_lineCount s_W1_sets s_W2_there s_W2_kind s_W2_tag s_W2_size s_W2_lineCount s_W2_sets s_W3_there s_W3_kind s_W3_tag s_W3_size s_W3_lineCount s_W3_sets s_W4_there s_W4_kind s_W4_tag s_W4_size s_W4_lineCount s_W4_sets s_W5_there s_W5_kind s_W5_tag s_W5_size s_W5_lineCount s_W5_sets s_p0_rowPlaces s_p0_rowSizes s_p0_worlds)) [0, 1, 2, 3, 4, 5, 6, 7, 8, 9, 10, 18, 19, 11, 12, 13, 14, 15, 16, 17] rfl rfl ?_
        refine v_lstore_n X (lv' := [(1, .long r_19), (0, .ref o_p0), (3, .int x_3)]) dX6_digest_22 rfl (by decide) rfl ?_
        refine v_iinc X (v := (x_3 + (1 : Int32))) (lv' := [(3, .int (x_3 + (1 : Int32))), (1, .long r_19), (0, .ref o_p0)]) 2 dX6_digest_23 rfl rfl (by decide) rfl ?_
        refine v_goto X (tgt := 6) dX6_digest_26 (by decide) ?_
        refine v_lv (lv' := [(0, .ref o_p0), (1, .long r_19), (3, .int (x_3 + (1 : Int32)))]) [2, 1, 0] rfl ?_
        exact hK_6 _ _ h
      · replace h := h.2.2.2.2.1 c3_17
        refine v_aald X 19 2 rfl rfl c_17 h.1 dX6_digest_17 ?_
        replace h := h.2
        refine v_lload_n X 1 dX6_digest_18 rfl rfl ?_
        refine v_callVl X (As := [.long x_1]) (rest := []) 1 0 (c_X5_digestOn (l := vl E) (D := vD E) (T := T) (o_p0 := o_W4) (a_p0 := a_W4) (s_p0_there := s_W4_there) (s_p0_kind := s_W4_kind) (s_p0_tag := s_W4_tag) (s_p0_size := s_W4_size) (s_p0_lineCount := s_W4_lineCount) (s_p0_sets := s_W4_sets) (x_1 := x_1) h) gX6_digest_X5_digestOn rfl rfl (by decide +kernel) ⟨Nat.zero_le _, Nat.zero_le _⟩ ⟨rfl, rfl, by decide, by decide⟩ (Nat.le_of_ble_eq_true rfl) rfl rfl (wr := [vO o_p0 3 [.ref (a_p0 0), .ref (a_p0 1), .ref (a_p0 2), .ref (a_p0 3), .ref (a_p0 4), .ref (a_p0 5), .ref (a_p0 6), .ref (a_p0 7), .ref o_S, .int s_p0_sentSize, .int s_p0_latestFinding, .int s_p0_latestTries, .long s_p0_latestAsked], vI T o_R0 12 s_R0, vI T o_R1 12 s_R1, vI T o_R2 12 s_R2, vI T o_R3 12 s_R3, vO o_W0 2 [.ref (a_W0 0), .ref (a_W0 1), .ref (a_W0 2), .int s_W0_there, .int s_W0_kind, .int s_W0_tag, .int s_W0_size, .int s_W0_lineCount], vJ T (a_W0 0) 45 s_W0_sets, vO o_W1 2 [.ref (a_W1 0), .ref (a_W1 1), .ref (a_W1 2), .int s_W1_there, .int s_W1_kind, .int s_W1_tag, .int s_W1_size, .int s_W1_lineCount], vJ T (a_W1 0) 45 s_W1_sets, vO o_W2 2 [.ref (a_W2 0), .ref (a_W2 1), .ref (a_W2 2), .int s_W2_there, .int s_W2_kind, .int s_W2_tag, .int s_W2_size, .int s_W2_lineCount], vJ T (a_W2 0) 45 s_W2_sets, vO o_W3 2 [.ref (a_W3 0), .ref (a_W3 1), .ref (a_W3 2), .int s_W3_there, .int s_W3_kind, .int s_W3_tag, .int s_W3_size, .int s_W3_lineCount], vJ T (a_W3 0) 45 s_W3_sets, vO o_W5 2 [.ref (a_W5 0), .ref (a_W5 1), .ref (a_W5 2), .int s_W5_there, .int s_W5_kind, .int s_W5_tag, .int s_W5_size, .int s_W5_lineCount], vJ T (a_W5 0) 45 s_W5_sets, vR T 3 (a_p0 1) 4 s_p0_rowPlaces, vI T (a_p0 2) 4 s_p0_rowSizes, vR T 2 (a_p0 0) 6 s_p0_worlds]) [13, 14] [0, 1, 2, 3, 4, 5, 6, 7, 8, 9, 10, 11, 12, 15, 16, 17, 18, 19] rfl rfl rfl rfl (by decide) rfl dX6_digest_19 (fun r_19 u h => ?_)
        refine v_ws (ws' := (cl_X6_digest T o_p0 a_p0 o_S o_R0 o_R1 o_R2 o_R3 o_W0 a_W0 o_W1 a_W1 o_W2 a_W2 o_W3 a_W3 o_W4 a_W4 o_W5 a_W5 s_p0_sentSize s_p0_latestFinding s_p0_latestTries s_p0_latestAsked s_R0 s_R1 s_R2 s_R3 s_W0_there s_W0_kind s_W0_tag s_W0_size s_W0_lineCount s_W0_sets s_W1_there s_W1_kind s_W1_tag s_W1_size s_W1_lineCount s_W1_sets s_W2_there s_W2_kind s_W2_tag s_W2_size s_W2_lineCount s_W2_sets s_W3_there s_W3_kind s_W3_tag s_W3_size s_W3_lineCount s_W3_sets s_W4_there s_W4_kind s_W4_tag s_W4_size s_W4_lineCount s_W4_sets s_W5_there s_W5_kind s_W5_tag s_W5_size s_W5_lineCount s_W5_sets s_p0_rowPlaces s_p0_rowSizes s_p0_worlds)) [0, 1, 2, 3, 4, 5, 6, 7, 8, 9, 10, 11, 12, 18, 19, 13, 14, 15, 16, 17] rfl rfl ?_
        refine v_lstore_n X (lv' := [(1, .long r_19), (0, .ref o_p0), (3, .int x_3)]) dX6_digest_22 rfl (by decide) rfl ?_
        refine v_iinc X (v := (x_3 + (1 : Int32))) (lv' := [(3, .int (x_3 + (1 : Int32))), (1, .long r_19), (0, .ref o_p0)]) 2 dX6_digest_23 rfl rfl (by decide) rfl ?_
        refine v_goto X (tgt := 6) dX6_digest_26 (by decide) ?_
        refine v_lv (lv' := [(0, .ref o_p0), (1, .long r_19), (3, .int (x_3 + (1 : Int32)))]) [2, 1, 0] rfl ?_
        exact hK_6 _ _ h
      · replace h := h.2.2.2.2.2 c3_17
        refine v_aald X 19 2 rfl rfl c_17 h.1 dX6_digest_17 ?_
        replace h := h.2
        refine v_lload_n X 1 dX6_digest_18 rfl rfl ?_
        refine v_callVl X (As := [.long x_1]) (rest := []) 1 0 (c_X5_digestOn (l := vl E) (D := vD E) (T := T) (o_p0 := o_W5) (a_p0 := a_W5) (s_p0_there := s_W5_there) (s_p0_kind := s_W5_kind) (s_p0_tag := s_W5_tag) (s_p0_size := s_W5_size) (s_p0_lineCount := s_W5_lineCount) (s_p0_sets := s_W5_sets) (x_1 := x_1) h) gX6_digest_X5_digestOn rfl rfl (by decide +kernel) ⟨Nat.zero_le _, Nat.zero_le _⟩ ⟨rfl, rfl, by decide, by decide⟩ (Nat.le_of_ble_eq_true rfl) rfl rfl (wr := [vO o_p0 3 [.ref (a_p0 0), .ref (a_p0 1), .ref (a_p0 2), .ref (a_p0 3), .ref (a_p0 4), .ref (a_p0 5), .ref (a_p0 6), .ref (a_p0 7), .ref o_S, .int s_p0_sentSize, .int s_p0_latestFinding, .int s_p0_latestTries, .long s_p0_latestAsked], vI T o_R0 12 s_R0, vI T o_R1 12 s_R1, vI T o_R2 12 s_R2, vI T o_R3 12 s_R3, vO o_W0 2 [.ref (a_W0 0), .ref (a_W0 1), .ref (a_W0 2), .int s_W0_there, .int s_W0_kind, .int s_W0_tag, .int s_W0_size, .int s_W0_lineCount], vJ T (a_W0 0) 45 s_W0_sets, vO o_W1 2 [.ref (a_W1 0), .ref (a_W1 1), .ref (a_W1 2), .int s_W1_there, .int s_W1_kind, .int s_W1_tag, .int s_W1_size, .int s_W1_lineCount], vJ T (a_W1 0) 45 s_W1_sets, vO o_W2 2 [.ref (a_W2 0), .ref (a_W2 1), .ref (a_W2 2), .int s_W2_there, .int s_W2_kind, .int s_W2_tag, .int s_W2_size, .int s_W2_lineCount], vJ T (a_W2 0) 45 s_W2_sets, vO o_W3 2 [.ref (a_W3 0), .ref (a_W3 1), .ref (a_W3 2), .int s_W3_there, .int s_W3_kind, .int s_W3_tag, .int s_W3_size, .int s_W3_lineCount], vJ T (a_W3 0) 45 s_W3_sets, vO o_W4 2 [.ref (a_W4 0), .ref (a_W4 1), .ref (a_W4 2), .int s_W4_there, .int s_W4_kind, .int s_W4_tag, .int s_W4_size, .int s_W4_lineCount], vJ T (a_W4 0) 45 s_W4_sets, vR T 3 (a_p0 1) 4 s_p0_rowPlaces, vI T (a_p0 2) 4 s_p0_rowSizes, vR T 2 (a_p0 0) 6 s_p0_worlds]) [15, 16] [0, 1, 2, 3, 4, 5, 6, 7, 8, 9, 10, 11, 12, 13, 14, 17, 18, 19] rfl rfl rfl rfl (by decide) rfl dX6_digest_19 (fun r_19 u h => ?_)
        refine v_ws (ws' := (cl_X6_digest T o_p0 a_p0 o_S o_R0 o_R1 o_R2 o_R3 o_W0 a_W0 o_W1 a_W1 o_W2 a_W2 o_W3 a_W3 o_W4 a_W4 o_W5 a_W5 s_p0_sentSize s_p0_latestFinding s_p0_latestTries s_p0_latestAsked s_R0 s_R1 s_R2 s_R3 s_W0_there s_W0_kind s_W0_tag s_W0_size s_W0_lineCount s_W0_sets s_W1_there s_W1_kind s_W1_tag s_W1_size s_W1_lineCount s_W1_sets s_W2_there s_W2_kind s_W2_tag s_W2_size s_W2_lineCount s_W2_sets s_W3_there s_W3_kind s_W3_tag s_W3_size s_W3_lineCount s_W3_sets s_W4_there s_W4_kind s_W4_tag s_W4_size s_W4_lineCount s_W4_sets s_W5_there s_W5_kind s_W5_tag s_W5_size s_W5_lineCount s_W5_sets s_p0_rowPlaces s_p0_rowSizes s_p0_worlds)) [0, 1, 2, 3, 4, 5, 6, 7, 8, 9, 10, 11, 12, 13, 14, 18, 19, 15, 16, 17] rfl rfl ?_
        refine v_lstore_n X (lv' := [(1, .long r_19), (0, .ref o_p0), (3, .int x_3)]) dX6_digest_22 rfl (by decide) rfl ?_
        refine v_iinc X (v := (x_3 + (1 : Int32))) (lv' := [(3, .int (x_3 + (1 : Int32))), (1, .long r_19), (0, .ref o_p0)]) 2 dX6_digest_23 rfl rfl (by decide) rfl ?_
        refine v_goto X (tgt := 6) dX6_digest_26 (by decide) ?_
        refine v_lv (lv' := [(0, .ref o_p0), (1, .long r_19), (3, .int (x_3 + (1 : Int32)))]) [2, 1, 0] rfl ?_
        exact hK_6 _ _ h
set_option maxHeartbeats 4000000 in
set_option maxRecDepth 100000 in
theorem c_X6_digest {l : Launch} {D : va_G} {T : Nat → ClassId} {o_p0 : Nat} {a_p0 : Nat → Nat} {o_S : Nat} {o_R0 : Nat} {o_R1 : Nat} {o_R2 : Nat} {o_R3 : Nat} {o_W0 : Nat} {a_W0 : Nat → Nat} {o_W1 : Nat} {a_W1 : Nat → Nat} {o_W2 : Nat} {a_W2 : Nat → Nat} {o_W3 : Nat} {a_W3 : Nat → Nat} {o_W4 : Nat} {a_W4 : Nat → Nat} {o_W5 : Nat} {a_W5 : Nat → Nat} {s_p0_sentSize : Int32} {s_p0_latestFinding : Int32} {s_p0_latestTries : Int32} {s_p0_latestAsked : Int64} {s_R0 : Nat → Int32} {s_R1 : Nat → Int32} {s_R2 : Nat → Int32} {s_R3 : Nat → Int32} {s_W0_there : Int32} {s_W0_kind : Int32} {s_W0_tag : Int32} {s_W0_size : Int32} {s_W0_lineCount : Int32} {s_W0_sets : Nat → Int64} {s_W1_there : Int32} {s_W1_kind : Int32} {s_W1_tag : Int32} {s_W1_size : Int32} {s_W1_lineCount : Int32} {s_W1_sets : Nat → Int64} {s_W2_there : Int32} {s_W2_kind : Int32} {s_W2_tag : Int32} {s_W2_size : Int32} {s_W2_lineCount : Int32} {s_W2_sets : Nat → Int64} {s_W3_there : Int32} {s_W3_kind : Int32} {s_W3_tag : Int32} {s_W3_size : Int32} {s_W3_lineCount : Int32} {s_W3_sets : Nat → Int64} {s_W4_there : Int32} {s_W4_kind : Int32} {s_W4_tag : Int32} {s_W4_size : Int32} {s_W4_lineCount : Int32} {s_W4_sets : Nat → Int64} {s_W5_there : Int32} {s_W5_kind : Int32} {s_W5_tag : Int32} {s_W5_size : Int32} {s_W5_lineCount : Int32} {s_W5_sets : Nat → Int64} {s_p0_rowPlaces : Nat → Option Nat} {s_p0_rowSizes : Nat → Int32} {s_p0_worlds : Nat → Option Nat} {Q : Int64 → Prop} (h : w_X6_digest s_R0 s_R1 s_R2 s_R3 s_W0_there s_W0_kind s_W0_size s_W0_lineCount s_W0_sets s_W1_there s_W1_kind s_W1_size s_W1_lineCount s_W1_sets s_W2_there s_W2_kind s_W2_size s_W2_lineCount s_W2_sets s_W3_there s_W3_kind s_W3_size s_W3_lineCount s_W3_sets s_W4_there s_W4_kind s_W4_size s_W4_lineCount s_W4_sets s_W5_there s_W5_kind s_W5_size s_W5_lineCount s_W5_sets s_p0_rowPlaces s_p0_rowSizes s_p0_worlds o_W0 o_W1 o_W2 o_W3 o_W4 o_W5 o_R0 o_R1 o_R2 o_R3 Q) : vCl l D (vT T) yX6_digest wsX6_digest (vr 1 25) [.ref o_p0] (cl_X6_digest T o_p0 a_p0 o_S o_R0 o_R1 o_R2 o_R3 o_W0 a_W0 o_W1 a_W1 o_W2 a_W2 o_W3 a_W3 o_W4 a_W4 o_W5 a_W5 s_p0_sentSize s_p0_latestFinding s_p0_latestTries s_p0_latestAsked s_R0 s_R1 s_R2 s_R3 s_W0_there s_W0_kind s_W0_tag s_W0_size s_W0_lineCount s_W0_sets s_W1_there s_W1_kind s_W1_tag s_W1_size s_W1_lineCount s_W1_sets s_W2_there s_W2_kind s_W2_tag s_W2_size s_W2_lineCount s_W2_sets s_W3_there s_W3_kind s_W3_tag s_W3_size s_W3_lineCount s_W3_sets s_W4_there s_W4_kind s_W4_tag s_W4_size s_W4_lineCount s_W4_sets s_W5_there s_W5_kind s_W5_tag s_W5_size s_W5_lineCount s_W5_sets s_p0_rowPlaces s_p0_rowSizes s_p0_worlds) (fun v (u : Unit) => Q v) (fun (u : Unit) => (cl_X6_digest T o_p0 a_p0 o_S o_R0 o_R1 o_R2 o_R3 o_W0 a_W0 o_W1 a_W1 o_W2 a_W2 o_W3 a_W3 o_W4 a_W4 o_W5 a_W5 s_p0_sentSize s_p0_latestFinding s_p0_latestTries s_p0_latestAsked s_R0 s_R1 s_R2 s_R3 s_W0_there s_W0_kind s_W0_tag s_W0_size s_W0_lineCount s_W0_sets s_W1_there s_W1_kind s_W1_tag s_W1_size s_W1_lineCount s_W1_sets s_W2_there s_W2_kind s_W2_tag s_W2_size s_W2_lineCount s_W2_sets s_W3_there s_W3_kind s_W3_tag s_W3_size s_W3_lineCount s_W3_sets s_W4_there s_W4_kind s_W4_tag s_W4_size s_W4_lineCount s_W4_sets s_W5_there s_W5_kind s_W5_tag s_W5_size s_W5_lineCount s_W5_sets s_p0_rowPlaces s_p0_rowSizes s_p0_worlds)) := by
  refine vC_l (cc := cX6_digest) (nL := 5) (by decide +kernel) rfl ⟨rfl, rfl⟩ (Nat.le_of_ble_eq_true rfl) rfl ?_
  intro E el eD X r
  unfold w_X6_digest at h
  refine v_ldc2 X (v := (17 : Int64)) (List.mem_of_getElem? (i := 1) rfl) dX6_digest_0 ?_
  refine v_lstore_n X (lv' := [(1, .long (17 : Int64)), (0, .ref o_p0)]) dX6_digest_3 rfl (by decide) rfl ?_
  refine v_iconst X dX6_digest_4 (v := (0 : Int32)) (by decide) ?_
  refine v_istore_n X (lv' := [(3, .int (0 : Int32)), (1, .long (17 : Int64)), (0, .ref o_p0)]) dX6_digest_5 rfl (by decide) rfl ?_
  refine v_lv (lv' := [(0, .ref o_p0), (1, .long (17 : Int64)), (3, .int (0 : Int32))]) [2, 1, 0] rfl ?_
  obtain ⟨n_, h⟩ := h
  exact k_X6_digest_6 X r n_ _ _ h