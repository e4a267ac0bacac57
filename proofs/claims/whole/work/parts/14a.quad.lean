-- X6_isWorldNumber
abbrev cl_X6_isWorldNumber (T : Nat → ClassId) : va_W := []
abbrev r_X6_isWorldNumber (E : vE) (T : Nat → ClassId) (Q : Int32 → Prop) : Prop := vRz E cX6_isWorldNumber (fun v (u : Unit) => Q v) (fun (u : Unit) => (cl_X6_isWorldNumber T))
def w_X6_isWorldNumber_15 (t_0 : Int32) (Q : Int32 → Prop) : Prop := (vz t_0 ∧ Q t_0)
def w_X6_isWorldNumber_14 (Q : Int32 → Prop) : Prop := (w_X6_isWorldNumber_15 (0 : Int32) Q)
def w_X6_isWorldNumber (x_0 : Int32) (Q : Int32 → Prop) : Prop := ((x_0 < 0 → (w_X6_isWorldNumber_14 Q)) ∧ (¬ x_0 < 0 → (((6 : Int32) ≤ x_0 → (w_X6_isWorldNumber_14 Q)) ∧ (¬ (6 : Int32) ≤ x_0 → (w_X6_isWorldNumber_15 (1 : Int32) Q)))))
-- X6_isWorldNumber
set_option maxHeartbeats 4000000 in
set_option maxRecDepth 100000 in
theorem k_X6_isWorldNumber_15 {E : vE} {T : Nat → ClassId} {t_0 : Int32} {Q : Int32 → Prop} (X : vX E cX6_isWorldNumber 1 RX6 wsX6_isWorldNumber (vT T) (vr 0 0)) (r : r_X6_isWorldNumber E T Q) (h : w_X6_isWorldNumber_15 t_0 Q) : V E 0 0 15 [] [.int t_0] (cl_X6_isWorldNumber T) := by
  unfold w_X6_isWorldNumber_15 at h
  exact r _ _ _ () _ dX6_isWorldNumber_15 h.1 h.2 rfl
set_option maxHeartbeats 4000000 in
set_option maxRecDepth 100000 in
theorem k_X6_isWorldNumber_14 {E : vE} {T : Nat → ClassId} {Q : Int32 → Prop} (X : vX E cX6_isWorldNumber 1 RX6 wsX6_isWorldNumber (vT T) (vr 0 0)) (r : r_X6_isWorldNumber E T Q) (h : w_X6_isWorldNumber_14 Q) : V E 0 0 14 [] [] (cl_X6_isWorldNumber T) := by
  unfold w_X6_isWorldNumber_14 at h
  refine v_iconst X dX6_isWorldNumber_14 (v := (0 : Int32)) (by decide) ?_
  exact k_X6_isWorldNumber_15 X r h
set_option maxHeartbeats 4000000 in
set_option maxRecDepth 100000 in
theorem c_X6_isWorldNumber {l : Launch} {D : va_G} {T : Nat → ClassId} {x_0 : Int32} {Q : Int32 → Prop} (h : w_X6_isWorldNumber x_0 Q) : vCi l D (vT T) yX6_isWorldNumber wsX6_isWorldNumber (vr 0 0) [.int x_0] (cl_X6_isWorldNumber T) (fun v (u : Unit) => Q v) (fun (u : Unit) => (cl_X6_isWorldNumber T)) := by
  refine vC_z (cc := cX6_isWorldNumber) (nL := 1) (by decide +kernel) rfl ⟨rfl, rfl⟩ (Nat.le_of_ble_eq_true rfl) rfl ?_
  intro E el eD X r
  unfold w_X6_isWorldNumber at h
  refine v_iload_n X 0 dX6_isWorldNumber_0 rfl rfl ?_
  refine v_if_lt X (tgt := 14) dX6_isWorldNumber_1 (by decide) (fun c_1 => ?_) (fun c_1 => ?_)
  · replace h := h.1 c_1
    refine v_lv (lv' := []) [] rfl ?_
    exact k_X6_isWorldNumber_14 X r h
  · replace h := h.2 c_1
    refine v_iload_n X 0 dX6_isWorldNumber_4 rfl rfl ?_
    refine v_bipush X dX6_isWorldNumber_5 (v := (6 : Int32)) (by decide) ?_
    refine v_icmp_ge X (tgt := 14) dX6_isWorldNumber_7 (by decide) (fun c_7 => ?_) (fun c_7 => ?_)
    · replace h := h.1 c_7
      refine v_lv (lv' := []) [] rfl ?_
      exact k_X6_isWorldNumber_14 X r h
    · replace h := h.2 c_7
      refine v_iconst X dX6_isWorldNumber_10 (v := (1 : Int32)) (by decide) ?_
      refine v_goto X (tgt := 15) dX6_isWorldNumber_11 (by decide) ?_
      refine v_lv (lv' := []) [] rfl ?_
      exact k_X6_isWorldNumber_15 X r h
-- X6_world
abbrev cl_X6_world (T : Nat → ClassId) (o_p0 : Nat) (a_p0 : Nat → Nat) (o_S : Nat) (o_W : Nat) (a_W : Nat → Nat) (s_p0_sentSize : Int32) (s_p0_latestFinding : Int32) (s_p0_latestTries : Int32) (s_p0_latestAsked : Int64) (s_W_there : Int32) (s_W_kind : Int32) (s_W_tag : Int32) (s_W_size : Int32) (s_W_lineCount : Int32) (s_W_near : Nat → Int64) (s_W_through : Nat → Int64) (s_p0_worlds : Nat → Option Nat) : va_W := [vO o_p0 3 [.ref (a_p0 0), .ref (a_p0 1), .ref (a_p0 2), .ref (a_p0 3), .ref (a_p0 4), .ref (a_p0 5), .ref (a_p0 6), .ref (a_p0 7), .ref o_S, .int s_p0_sentSize, .int s_p0_latestFinding, .int s_p0_latestTries, .long s_p0_latestAsked], vO o_W 2 [.ref (a_W 0), .ref (a_W 1), .ref (a_W 2), .int s_W_there, .int s_W_kind, .int s_W_tag, .int s_W_size, .int s_W_lineCount], vJ T (a_W 2) 45 s_W_near, vJ T (a_W 1) 45 s_W_through, vR T 2 (a_p0 0) 6 s_p0_worlds]
abbrev r_X6_world (E : vE) (T : Nat → ClassId) (o_p0 : Nat) (a_p0 : Nat → Nat) (o_S : Nat) (o_W : Nat) (a_W : Nat → Nat) (s_p0_sentSize : Int32) (s_p0_latestFinding : Int32) (s_p0_latestTries : Int32) (s_p0_latestAsked : Int64) (s_p0_worlds : Nat → Option Nat) (Q : Int32 → (Int32) → (Int32) → (Int32) → (Int32) → (Int32) → (Nat → Int64) → (Nat → Int64) → Prop) : Prop := vRi E cX6_world (fun v (u : (Int32) × (Int32) × (Int32) × (Int32) × (Int32) × (Nat → Int64) × (Nat → Int64)) => Q v u.1 u.2.1 u.2.2.1 u.2.2.2.1 u.2.2.2.2.1 u.2.2.2.2.2.1 u.2.2.2.2.2.2) (fun (u : (Int32) × (Int32) × (Int32) × (Int32) × (Int32) × (Nat → Int64) × (Nat → Int64)) => (cl_X6_world T o_p0 a_p0 o_S o_W a_W s_p0_sentSize s_p0_latestFinding s_p0_latestTries s_p0_latestAsked u.1 u.2.1 u.2.2.1 u.2.2.2.1 u.2.2.2.2.1 u.2.2.2.2.2.1 u.2.2.2.2.2.2 s_p0_worlds))
def w_X6_world_18 (s_W_there : Int32) (s_W_kind : Int32) (s_W_tag : Int32) (s_W_size : Int32) (s_W_lineCount : Int32) (s_W_near : Nat → Int64) (s_W_through : Nat → Int64) (s_p0_worlds : Nat → Option Nat) (o_W : Nat) (Q : Int32 → (Int32) → (Int32) → (Int32) → (Int32) → (Int32) → (Nat → Int64) → (Nat → Int64) → Prop) : Prop := (Q (-1 : Int32) s_W_there s_W_kind s_W_tag s_W_size s_W_lineCount s_W_near s_W_through)
def w_X6_world (x_1 : Int32) (x_2 : Int32) (s_W_there : Int32) (s_W_kind : Int32) (s_W_tag : Int32) (s_W_size : Int32) (s_W_lineCount : Int32) (s_W_near : Nat → Int64) (s_W_through : Nat → Int64) (s_p0_worlds : Nat → Option Nat) (o_W : Nat) (Q : Int32 → (Int32) → (Int32) → (Int32) → (Int32) → (Int32) → (Nat → Int64) → (Nat → Int64) → Prop) : Prop := (w_X6_isWorldNumber x_1 (fun (r_1 : Int32) => ((r_1 = 0 → (w_X6_world_18 s_W_there s_W_kind s_W_tag s_W_size s_W_lineCount s_W_near s_W_through s_p0_worlds o_W Q)) ∧ (¬ r_1 = 0 → ((x_2 < (2 : Int32) → (w_X6_world_18 s_W_there s_W_kind s_W_tag s_W_size s_W_lineCount s_W_near s_W_through s_p0_worlds o_W Q)) ∧ (¬ x_2 < (2 : Int32) → ((x_2 ≤ (45 : Int32) → (vp_in x_1 6 ∧ s_p0_worlds (x_1).toNatClampNeg = some o_W ∧ (w_X5_begin (0 : Int32) x_2 (0 : Int32) s_W_there s_W_kind s_W_tag s_W_size s_W_lineCount s_W_near s_W_through (fun (u_29_0 : Int32) (u_29_1 : Int32) (u_29_2 : Int32) (u_29_3 : Int32) (u_29_4 : Int32) (u_29_5 : Nat → Int64) (u_29_6 : Nat → Int64) => (Q x_2 u_29_0 u_29_1 u_29_2 u_29_3 u_29_4 u_29_5 u_29_6))))) ∧ (¬ x_2 ≤ (45 : Int32) → (w_X6_world_18 s_W_there s_W_kind s_W_tag s_W_size s_W_lineCount s_W_near s_W_through s_p0_worlds o_W Q)))))))))
-- X6_world
theorem iX6_world_X6 : ∀ w ∈ wsX60, w ∈ wsX6_world := by decide +kernel
set_option maxHeartbeats 4000000 in
set_option maxRecDepth 100000 in
theorem k_X6_world_18 {E : vE} {T : Nat → ClassId} {o_p0 : Nat} {a_p0 : Nat → Nat} {o_S : Nat} {o_W : Nat} {a_W : Nat → Nat} {s_p0_sentSize : Int32} {s_p0_latestFinding : Int32} {s_p0_latestTries : Int32} {s_p0_latestAsked : Int64} {s_W_there : Int32} {s_W_kind : Int32} {s_W_tag : Int32} {s_W_size : Int32} {s_W_lineCount : Int32} {s_W_near : Nat → Int64} {s_W_through : Nat → Int64} {s_p0_worlds : Nat → Option Nat} {Q : Int32 → (Int32) → (Int32) → (Int32) → (Int32) → (Int32) → (Nat → Int64) → (Nat → Int64) → Prop} (X : vX E cX6_world 3 RX6 wsX6_world (vT T) (vr 1 24)) (r : r_X6_world E T o_p0 a_p0 o_S o_W a_W s_p0_sentSize s_p0_latestFinding s_p0_latestTries s_p0_latestAsked s_p0_worlds Q) (h : w_X6_world_18 s_W_there s_W_kind s_W_tag s_W_size s_W_lineCount s_W_near s_W_through s_p0_worlds o_W Q) : V E 0 0 18 [] [] (cl_X6_world T o_p0 a_p0 o_S o_W a_W s_p0_sentSize s_p0_latestFinding s_p0_latestTries s_p0_latestAsked s_W_there s_W_kind s_W_tag s_W_size s_W_lineCount s_W_near s_W_through s_p0_worlds) := by
  unfold w_X6_world_18 at h
  refine v_iconst X dX6_world_18 (v := (-1 : Int32)) (by decide) ?_
  exact r _ _ _ (s_W_there, s_W_kind, s_W_tag, s_W_size, s_W_lineCount, s_W_near, s_W_through) _ dX6_world_19 h rfl
set_option maxHeartbeats 4000000 in
set_option maxRecDepth 100000 in
theorem c_X6_world {l : Launch} {D : va_G} {T : Nat → ClassId} {o_p0 : Nat} {a_p0 : Nat → Nat} {o_S : Nat} {o_W : Nat} {a_W : Nat → Nat} {s_p0_sentSize : Int32} {s_p0_latestFinding : Int32} {s_p0_latestTries : Int32} {s_p0_latestAsked : Int64} {s_W_there : Int32} {s_W_kind : Int32} {s_W_tag : Int32} {s_W_size : Int32} {s_W_lineCount : Int32} {s_W_near : Nat → Int64} {s_W_through : Nat → Int64} {s_p0_worlds : Nat → Option Nat} {x_1 : Int32} {x_2 : Int32} {Q : Int32 → (Int32) → (Int32) → (Int32) → (Int32) → (Int32) → (Nat → Int64) → (Nat → Int64) → Prop} (h : w_X6_world x_1 x_2 s_W_there s_W_kind s_W_tag s_W_size s_W_lineCount s_W_near s_W_through s_p0_worlds o_W Q) : vCi l D (vT T) yX6_world wsX6_world (vr 1 24) [.ref o_p0, .int x_1, .int x_2] (cl_X6_world T o_p0 a_p0 o_S o_W a_W s_p0_sentSize s_p0_latestFinding s_p0_latestTries s_p0_latestAsked s_W_there s_W_kind s_W_tag s_W_size s_W_lineCount s_W_near s_W_through s_p0_worlds) (fun v (u : (Int32) × (Int32) × (Int32) × (Int32) × (Int32) × (Nat → Int64) × (Nat → Int64)) => Q v u.1 u.2.1 u.2.2.1 u.2.2.2.1 u.2.2.2.2.1 u.2.2.2.2.2.1 u.2.2.2.2.2.2) (fun (u : (Int32) × (Int32) × (Int32) × (Int32) × (Int32) × (Nat → Int64) × (Nat → Int64)) => (cl_X6_world T o_p0 a_p0 o_S o_W a_W s_p0_sentSize s_p0_latestFinding s_p0_latestTries s_p0_latestAsked u.1 u.2.1 u.2.2.1 u.2.2.2.1 u.2.2.2.2.1 u.2.2.2.2.2.1 u.2.2.2.2.2.2 s_p0_worlds)) := by
  refine vC_i (cc := cX6_world) (nL := 3) (by decide +kernel) rfl ⟨rfl, rfl⟩ (Nat.le_of_ble_eq_true rfl) rfl ?_
  intro E el eD X r
  unfold w_X6_world at h
  refine v_iload_n X 1 dX6_world_0 rfl rfl ?_
  refine v_callSi0 X (As := [.int x_1]) (rest := []) 1 (c_X6_isWorldNumber (l := vl E) (D := vD E) (T := T) (x_0 := x_1) h) gX6_world_X6_isWorldNumber rfl rfl (by decide +kernel) ⟨Nat.zero_le _, Nat.zero_le _⟩ ⟨rfl, rfl, by decide, by decide⟩ (Nat.le_of_ble_eq_true rfl) rfl dX6_world_1 (fun r_1 h => ?_)
  refine v_if_eq X (tgt := 18) dX6_world_4 (by decide) (fun c_4 => ?_) (fun c_4 => ?_)
  · replace h := h.1 c_4
    refine v_lv (lv' := []) [] rfl ?_
    exact k_X6_world_18 X r h
  · replace h := h.2 c_4
    refine v_iload_n X 2 dX6_world_7 rfl rfl ?_
    refine v_iconst X dX6_world_8 (v := (2 : Int32)) (by decide) ?_
    refine v_icmp_lt X (tgt := 18) dX6_world_9 (by decide) (fun c_9 => ?_) (fun c_9 => ?_)
    · replace h := h.1 c_9
      refine v_lv (lv' := []) [] rfl ?_
      exact k_X6_world_18 X r h
    · replace h := h.2 c_9
      refine v_iload_n X 2 dX6_world_12 rfl rfl ?_
      refine v_bipush X dX6_world_13 (v := (45 : Int32)) (by decide) ?_
      refine v_icmp_le X (tgt := 20) dX6_world_15 (by decide) (fun c_15 => ?_) (fun c_15 => ?_)
      · replace h := h.1 c_15
        refine v_aload_n X 0 dX6_world_20 rfl rfl ?_
        refine v_get X 0 0 (F := TX6) (N := 13) iX6_world_X6 rfl rfl (by decide) (List.mem_of_getElem? (i := 1) rfl) rfl rfl dX6_world_21 ?_
        refine v_iload_n X 1 dX6_world_24 rfl rfl ?_
        refine v_aald X 4 2 rfl rfl h.1 h.2.1 dX6_world_25 ?_
        replace h := h.2.2
        refine v_iconst X dX6_world_26 (v := (0 : Int32)) (by decide) ?_
        refine v_iload_n X 2 dX6_world_27 rfl rfl ?_
        refine v_iconst X dX6_world_28 (v := (0 : Int32)) (by decide) ?_
        refine v_callVv X (As := [.int (0 : Int32), .int x_2, .int (0 : Int32)]) (rest := []) 3 0 (c_X5_begin (l := vl E) (D := vD E) (T := T) (o_p0 := o_W) (a_p0 := a_W) (s_p0_there := s_W_there) (s_p0_kind := s_W_kind) (s_p0_tag := s_W_tag) (s_p0_size := s_W_size) (s_p0_lineCount := s_W_lineCount) (s_p0_near := s_W_near) (s_p0_through := s_W_through) (x_1 := (0 : Int32)) (x_2 := x_2) (x_3 := (0 : Int32)) h) gX6_world_X5_begin rfl rfl (by decide +kernel) ⟨Nat.zero_le _, Nat.zero_le _⟩ ⟨rfl, rfl, by decide, by decide⟩ (Nat.le_of_ble_eq_true rfl) rfl rfl (wr := [vO o_p0 3 [.ref (a_p0 0), .ref (a_p0 1), .ref (a_p0 2), .ref (a_p0 3), .ref (a_p0 4), .ref (a_p0 5), .ref (a_p0 6), .ref (a_p0 7), .ref o_S, .int s_p0_sentSize, .int s_p0_latestFinding, .int s_p0_latestTries, .long s_p0_latestAsked], vR T 2 (a_p0 0) 6 s_p0_worlds]) [1, 2, 3] [0, 4] rfl rfl rfl rfl (by decide) rfl dX6_world_29 (fun u h => ?_)
        obtain ⟨u_29_0, u_29_1, u_29_2, u_29_3, u_29_4, u_29_5, u_29_6⟩ := u
        dsimp only at h
        refine v_ws (ws' := (cl_X6_world T o_p0 a_p0 o_S o_W a_W s_p0_sentSize s_p0_latestFinding s_p0_latestTries s_p0_latestAsked u_29_0 u_29_1 u_29_2 u_29_3 u_29_4 u_29_5 u_29_6 s_p0_worlds)) [0, 2, 3, 4, 1] rfl rfl ?_
        refine v_iload_n X 2 dX6_world_32 rfl rfl ?_
        exact r _ _ _ (u_29_0, u_29_1, u_29_2, u_29_3, u_29_4, u_29_5, u_29_6) _ dX6_world_33 h rfl
      · replace h := h.2 c_15
        refine v_lv (lv' := []) [] rfl ?_
        exact k_X6_world_18 X r h
-- X6_isRowNumber
abbrev cl_X6_isRowNumber (T : Nat → ClassId) : va_W := []
abbrev r_X6_isRowNumber (E : vE) (T : Nat → ClassId) (Q : Int32 → Prop) : Prop := vRz E cX6_isRowNumber (fun v (u : Unit) => Q v) (fun (u : Unit) => (cl_X6_isRowNumber T))
def w_X6_isRowNumber_14 (t_0 : Int32) (Q : Int32 → Prop) : Prop := (vz t_0 ∧ Q t_0)
def w_X6_isRowNumber_13 (Q : Int32 → Prop) : Prop := (w_X6_isRowNumber_14 (0 : Int32) Q)
def w_X6_isRowNumber (x_0 : Int32) (Q : Int32 → Prop) : Prop := ((x_0 < 0 → (w_X6_isRowNumber_13 Q)) ∧ (¬ x_0 < 0 → (((4 : Int32) ≤ x_0 → (w_X6_isRowNumber_13 Q)) ∧ (¬ (4 : Int32) ≤ x_0 → (w_X6_isRowNumber_14 (1 : Int32) Q)))))
-- X6_isRowNumber
set_option maxHeartbeats 4000000 in
set_option maxRecDepth 100000 in
theorem k_X6_isRowNumber_14 {E : vE} {T : Nat → ClassId} {t_0 : Int32} {Q : Int32 → Prop} (X : vX E cX6_isRowNumber 1 RX6 wsX6_isRowNumber (vT T) (vr 0 0)) (r : r_X6_isRowNumber E T Q) (h : w_X6_isRowNumber_14 t_0 Q) : V E 0 0 14 [] [.int t_0] (cl_X6_isRowNumber T) := by
  unfold w_X6_isRowNumber_14 at h
  exact r _ _ _ () _ dX6_isRowNumber_14 h.1 h.2 rfl
set_option maxHeartbeats 4000000 in
set_option maxRecDepth 100000 in
theorem k_X6_isRowNumber_13 {E : vE} {T : Nat → ClassId} {Q : Int32 → Prop} (X : vX E cX6_isRowNumber 1 RX6 wsX6_isRowNumber (vT T) (vr 0 0)) (r : r_X6_isRowNumber E T Q) (h : w_X6_isRowNumber_13 Q) : V E 0 0 13 [] [] (cl_X6_isRowNumber T) := by
  unfold w_X6_isRowNumber_13 at h
  refine v_iconst X dX6_isRowNumber_13 (v := (0 : Int32)) (by decide) ?_
  exact k_X6_isRowNumber_14 X r h
set_option maxHeartbeats 4000000 in
set_option maxRecDepth 100000 in
theorem c_X6_isRowNumber {l : Launch} {D : va_G} {T : Nat → ClassId} {x_0 : Int32} {Q : Int32 → Prop} (h : w_X6_isRowNumber x_0 Q) : vCi l D (vT T) yX6_isRowNumber wsX6_isRowNumber (vr 0 0) [.int x_0] (cl_X6_isRowNumber T) (fun v (u : Unit) => Q v) (fun (u : Unit) => (cl_X6_isRowNumber T)) := by
  refine vC_z (cc := cX6_isRowNumber) (nL := 1) (by decide +kernel) rfl ⟨rfl, rfl⟩ (Nat.le_of_ble_eq_true rfl) rfl ?_
  intro E el eD X r
  unfold w_X6_isRowNumber at h
  refine v_iload_n X 0 dX6_isRowNumber_0 rfl rfl ?_
  refine v_if_lt X (tgt := 13) dX6_isRowNumber_1 (by decide) (fun c_1 => ?_) (fun c_1 => ?_)
  · replace h := h.1 c_1
    refine v_lv (lv' := []) [] rfl ?_
    exact k_X6_isRowNumber_13 X r h
  · replace h := h.2 c_1
    refine v_iload_n X 0 dX6_isRowNumber_4 rfl rfl ?_
    refine v_iconst X dX6_isRowNumber_5 (v := (4 : Int32)) (by decide) ?_
    refine v_icmp_ge X (tgt := 13) dX6_isRowNumber_6 (by decide) (fun c_6 => ?_) (fun c_6 => ?_)
    · replace h := h.1 c_6
      refine v_lv (lv' := []) [] rfl ?_
      exact k_X6_isRowNumber_13 X r h
    · replace h := h.2 c_6
      refine v_iconst X dX6_isRowNumber_9 (v := (1 : Int32)) (by decide) ?_
      refine v_goto X (tgt := 14) dX6_isRowNumber_10 (by decide) ?_
      refine v_lv (lv' := []) [] rfl ?_
      exact k_X6_isRowNumber_14 X r h
-- X6_refused
abbrev cl_X6_refused (T : Nat → ClassId) (o_p0 : Nat) (a_p0 : Nat → Nat) (o_S : Nat) (s_p0_sentSize : Int32) (s_p0_latestFinding : Int32) (s_p0_latestTries : Int32) (s_p0_latestAsked : Int64) (s_p0_findingTimes : Nat → Int32) : va_W := [vO o_p0 3 [.ref (a_p0 0), .ref (a_p0 1), .ref (a_p0 2), .ref (a_p0 3), .ref (a_p0 4), .ref (a_p0 5), .ref (a_p0 6), .ref (a_p0 7), .ref o_S, .int s_p0_sentSize, .int s_p0_latestFinding, .int s_p0_latestTries, .long s_p0_latestAsked], vI T (a_p0 3) 6 s_p0_findingTimes]
abbrev r_X6_refused (E : vE) (T : Nat → ClassId) (o_p0 : Nat) (a_p0 : Nat → Nat) (o_S : Nat) (s_p0_sentSize : Int32) (s_p0_latestTries : Int32) (s_p0_latestAsked : Int64) (Q : Int32 → (Int32) → (Nat → Int32) → Prop) : Prop := vRi E cX6_refused (fun v (u : (Int32) × (Nat → Int32)) => Q v u.1 u.2) (fun (u : (Int32) × (Nat → Int32)) => (cl_X6_refused T o_p0 a_p0 o_S s_p0_sentSize u.1 s_p0_latestTries s_p0_latestAsked u.2))
def w_X6_refused (x_1 : Int32) (s_p0_latestFinding : Int32) (s_p0_findingTimes : Nat → Int32) (Q : Int32 → (Int32) → (Nat → Int32) → Prop) : Prop := (vp_in x_1 6 ∧ (vp_in x_1 6 ∧ (Q (-3 : Int32) x_1 (upd s_p0_findingTimes (x_1).toNatClampNeg ((s_p0_findingTimes (x_1).toNatClampNeg) + (1 : Int32))))))
-- X6_refused
theorem iX6_refused_X6 : ∀ w ∈ wsX60, w ∈ wsX6_refused := by decide +kernel
set_option maxHeartbeats 4000000 in
set_option maxRecDepth 100000 in
theorem c_X6_refused {l : Launch} {D : va_G} {T : Nat → ClassId} {o_p0 : Nat} {a_p0 : Nat → Nat} {o_S : Nat} {s_p0_sentSize : Int32} {s_p0_latestFinding : Int32} {s_p0_latestTries : Int32} {s_p0_latestAsked : Int64} {s_p0_findingTimes : Nat → Int32} {x_1 : Int32} {Q : Int32 → (Int32) → (Nat → Int32) → Prop} (h : w_X6_refused x_1 s_p0_latestFinding s_p0_findingTimes Q) : vCi l D (vT T) yX6_refused wsX6_refused (vr 0 0) [.ref o_p0, .int x_1] (cl_X6_refused T o_p0 a_p0 o_S s_p0_sentSize s_p0_latestFinding s_p0_latestTries s_p0_latestAsked s_p0_findingTimes) (fun v (u : (Int32) × (Nat → Int32)) => Q v u.1 u.2) (fun (u : (Int32) × (Nat → Int32)) => (cl_X6_refused T o_p0 a_p0 o_S s_p0_sentSize u.1 s_p0_latestTries s_p0_latestAsked u.2)) := by
  refine vC_i (cc := cX6_refused) (nL := 2) (by decide +kernel) rfl ⟨rfl, rfl⟩ (Nat.le_of_ble_eq_true rfl) rfl ?_
  intro E el eD X r
  unfold w_X6_refused at h
  refine v_aload_n X 0 dX6_refused_0 rfl rfl ?_
  refine v_iload_n X 1 dX6_refused_1 rfl rfl ?_
  refine v_put X (ws' := (cl_X6_refused T o_p0 a_p0 o_S s_p0_sentSize x_1 s_p0_latestTries s_p0_latestAsked s_p0_findingTimes)) 0 10 (F := TX6) (N := 13) iX6_refused_X6 rfl tyX6 tyX6_ok nmX6 rfl (by decide) (List.mem_of_getElem? (i := 1) rfl) rfl rfl rfl rfl rfl (Nat.le_of_ble_eq_true rfl) rfl dX6_refused_2 ?_
  refine v_aload_n X 0 dX6_refused_5 rfl rfl ?_
  refine v_get X 0 3 (F := TX6) (N := 13) iX6_refused_X6 rfl rfl (by decide) (List.mem_of_getElem? (i := 2) rfl) rfl rfl dX6_refused_6 ?_
  refine v_iload_n X 1 dX6_refused_9 rfl rfl ?_
  refine v_dup2_11 X dX6_refused_10 rfl rfl ?_
  refine v_iald X 1 0 rfl rfl h.1 dX6_refused_11 ?_
  replace h := h.2
  refine v_iconst X dX6_refused_12 (v := (1 : Int32)) (by decide) ?_
  refine v_iadd X dX6_refused_13 ?_
  refine v_iast X (ws' := (cl_X6_refused T o_p0 a_p0 o_S s_p0_sentSize x_1 s_p0_latestTries s_p0_latestAsked (upd s_p0_findingTimes (x_1).toNatClampNeg ((s_p0_findingTimes (x_1).toNatClampNeg) + (1 : Int32))))) 1 0 rfl rfl h.1 rfl dX6_refused_14 ?_
  replace h := h.2
  refine v_bipush X dX6_refused_15 (v := (-3 : Int32)) (by decide) ?_
  exact r _ _ _ (x_1, (upd s_p0_findingTimes (x_1).toNatClampNeg ((s_p0_findingTimes (x_1).toNatClampNeg) + (1 : Int32)))) _ dX6_refused_17 h rfl
-- X6_rowHasPointsOf
abbrev cl_X6_rowHasPointsOf (T : Nat → ClassId) (o_p0 : Nat) (a_p0 : Nat → Nat) (o_S : Nat) (o_P : Nat) (o_p2 : Nat) (a_p2 : Nat → Nat) (s_p0_sentSize : Int32) (s_p0_latestFinding : Int32) (s_p0_latestTries : Int32) (s_p0_latestAsked : Int64) (s_P : Nat → Int32) (s_p0_rowPlaces : Nat → Option Nat) (s_p0_rowSizes : Nat → Int32) (s_p2_there : Int32) (s_p2_kind : Int32) (s_p2_tag : Int32) (s_p2_size : Int32) (s_p2_lineCount : Int32) : va_W := [vO o_p0 3 [.ref (a_p0 0), .ref (a_p0 1), .ref (a_p0 2), .ref (a_p0 3), .ref (a_p0 4), .ref (a_p0 5), .ref (a_p0 6), .ref (a_p0 7), .ref o_S, .int s_p0_sentSize, .int s_p0_latestFinding, .int s_p0_latestTries, .long s_p0_latestAsked], vI T o_P 12 s_P, vR T 3 (a_p0 1) 4 s_p0_rowPlaces, vI T (a_p0 2) 4 s_p0_rowSizes, vO o_p2 2 [.ref (a_p2 0), .ref (a_p2 1), .ref (a_p2 2), .int s_p2_there, .int s_p2_kind, .int s_p2_tag, .int s_p2_size, .int s_p2_lineCount]]
abbrev r_X6_rowHasPointsOf (E : vE) (T : Nat → ClassId) (o_p0 : Nat) (a_p0 : Nat → Nat) (o_S : Nat) (o_P : Nat) (o_p2 : Nat) (a_p2 : Nat → Nat) (s_p0_sentSize : Int32) (s_p0_latestFinding : Int32) (s_p0_latestTries : Int32) (s_p0_latestAsked : Int64) (s_P : Nat → Int32) (s_p0_rowPlaces : Nat → Option Nat) (s_p0_rowSizes : Nat → Int32) (s_p2_there : Int32) (s_p2_kind : Int32) (s_p2_tag : Int32) (s_p2_size : Int32) (s_p2_lineCount : Int32) (Q : Int32 → Prop) : Prop := vRz E cX6_rowHasPointsOf (fun v (u : Unit) => Q v) (fun (u : Unit) => (cl_X6_rowHasPointsOf T o_p0 a_p0 o_S o_P o_p2 a_p2 s_p0_sentSize s_p0_latestFinding s_p0_latestTries s_p0_latestAsked s_P s_p0_rowPlaces s_p0_rowSizes s_p2_there s_p2_kind s_p2_tag s_p2_size s_p2_lineCount))
def w_X6_rowHasPointsOf_2s (x_1 : Int32) (s_P : Nat → Int32) (s_p0_rowPlaces : Nat → Option Nat) (s_p0_rowSizes : Nat → Int32) (s_p2_size : Int32) (o_P : Nat) (Q : Int32 → Prop) (K_2 : (Int32) → Prop) (x_3 : Int32) : Prop := (vp_in x_1 4 ∧ (((s_p0_rowSizes (x_1).toNatClampNeg) ≤ x_3 → (vz (1 : Int32) ∧ Q (1 : Int32))) ∧ (¬ (s_p0_rowSizes (x_1).toNatClampNeg) ≤ x_3 → (vp_in x_1 4 ∧ s_p0_rowPlaces (x_1).toNatClampNeg = some o_P ∧ (vp_in x_3 12 ∧ (w_X5_hasPoint (s_P (x_3).toNatClampNeg) s_p2_size (fun (r_21 : Int32) => ((¬ r_21 = 0 → (K_2 (x_3 + (1 : Int32)))) ∧ (r_21 = 0 → (vz (0 : Int32) ∧ Q (0 : Int32)))))))))))
def w_X6_rowHasPointsOf_2 (x_1 : Int32) (s_P : Nat → Int32) (s_p0_rowPlaces : Nat → Option Nat) (s_p0_rowSizes : Nat → Int32) (s_p2_size : Int32) (o_P : Nat) (Q : Int32 → Prop) : Nat → (Int32) → Prop
  | 0 => fun _ => False
  | n_ + 1 => w_X6_rowHasPointsOf_2s x_1 s_P s_p0_rowPlaces s_p0_rowSizes s_p2_size o_P Q (w_X6_rowHasPointsOf_2 x_1 s_P s_p0_rowPlaces s_p0_rowSizes s_p2_size o_P Q n_)
def w_X6_rowHasPointsOf (x_1 : Int32) (s_P : Nat → Int32) (s_p0_rowPlaces : Nat → Option Nat) (s_p0_rowSizes : Nat → Int32) (s_p2_size : Int32) (o_P : Nat) (Q : Int32 → Prop) : Prop := (∃ n_, w_X6_rowHasPointsOf_2 x_1 s_P s_p0_rowPlaces s_p0_rowSizes s_p2_size o_P Q n_ (0 : Int32))
-- X6_rowHasPointsOf
theorem iX6_rowHasPointsOf_X6 : ∀ w ∈ wsX60, w ∈ wsX6_rowHasPointsOf := by decide +kernel
set_option maxHeartbeats 4000000 in
set_option maxRecDepth 100000 in
theorem k_X6_rowHasPointsOf_2 {E : vE} {T : Nat → ClassId} {o_p0 : Nat} {a_p0 : Nat → Nat} {o_S : Nat} {o_P : Nat} {o_p2 : Nat} {a_p2 : Nat → Nat} {s_p0_sentSize : Int32} {s_p0_latestFinding : Int32} {s_p0_latestTries : Int32} {s_p0_latestAsked : Int64} {s_P : Nat → Int32} {s_p0_rowPlaces : Nat → Option Nat} {s_p0_rowSizes : Nat → Int32} {s_p2_there : Int32} {s_p2_kind : Int32} {s_p2_tag : Int32} {s_p2_size : Int32} {s_p2_lineCount : Int32} {x_1 : Int32} {Q : Int32 → Prop} (X : vX E cX6_rowHasPointsOf 4 RX6 wsX6_rowHasPointsOf (vT T) (vr 1 21)) (r : r_X6_rowHasPointsOf E T o_p0 a_p0 o_S o_P o_p2 a_p2 s_p0_sentSize s_p0_latestFinding s_p0_latestTries s_p0_latestAsked s_P s_p0_rowPlaces s_p0_rowSizes s_p2_there s_p2_kind s_p2_tag s_p2_size s_p2_lineCount Q) : ∀ (n_ : Nat) (x_3 : Int32), w_X6_rowHasPointsOf_2 x_1 s_P s_p0_rowPlaces s_p0_rowSizes s_p2_size o_P Q n_ x_3 → V E 0 0 2 [(0, .ref o_p0), (1, .int x_1), (2, .ref o_p2), (3, .int x_3)] [] (cl_X6_rowHasPointsOf T o_p0 a_p0 o_S o_P o_p2 a_p2 s_p0_sentSize s_p0_latestFinding s_p0_latestTries s_p0_latestAsked s_P s_p0_rowPlaces s_p0_rowSizes s_p2_there s_p2_kind s_p2_tag s_p2_size s_p2_lineCount) := by
  intro n_
  induction n_ with
  | zero => intro x_3 h; exact h.elim
  | succ n_ hK_2 =>
    intro x_3 h
    replace h : w_X6_rowHasPointsOf_2s x_1 s_P s_p0_rowPlaces s_p0_rowSizes s_p2_size o_P Q (w_X6_rowHasPointsOf_2 x_1 s_P s_p0_rowPlaces s_p0_rowSizes s_p2_size o_P Q n_) x_3 := h
    unfold w_X6_rowHasPointsOf_2s at h
    refine v_iload_n X 3 dX6_rowHasPointsOf_2 rfl rfl ?_
    refine v_aload_n X 0 dX6_rowHasPointsOf_3 rfl rfl ?_
    refine v_get X 0 2 (F := TX6) (N := 13) iX6_rowHasPointsOf_X6 rfl rfl (by decide) (List.mem_of_getElem? (i := 1) rfl) rfl rfl dX6_rowHasPointsOf_4 ?_
    refine v_iload_n X 1 dX6_rowHasPointsOf_7 rfl rfl ?_
    refine v_iald X 3 0 rfl rfl h.1 dX6_rowHasPointsOf_8 ?_
    replace h := h.2
    refine v_icmp_ge X (tgt := 35) dX6_rowHasPointsOf_9 (by decide) (fun c_9 => ?_) (fun c_9 => ?_)
    · replace h := h.1 c_9
      refine v_iconst X dX6_rowHasPointsOf_35 (v := (1 : Int32)) (by decide) ?_
      exact r _ _ _ () _ dX6_rowHasPointsOf_36 h.1 h.2 rfl
    · replace h := h.2 c_9
      refine v_aload_n X 2 dX6_rowHasPointsOf_12 rfl rfl ?_
      refine v_aload_n X 0 dX6_rowHasPointsOf_13 rfl rfl ?_
      refine v_get X 0 1 (F := TX6) (N := 13) iX6_rowHasPointsOf_X6 rfl rfl (by decide) (List.mem_of_getElem? (i := 2) rfl) rfl rfl dX6_rowHasPointsOf_14 ?_
      refine v_iload_n X 1 dX6_rowHasPointsOf_17 rfl rfl ?_
      refine v_aaldA X 2 3 rfl rfl h.1 h.2.1 dX6_rowHasPointsOf_18 ?_
      replace h := h.2.2
      refine v_iload_n X 3 dX6_rowHasPointsOf_19 rfl rfl ?_
      refine v_iald X 1 0 rfl rfl h.1 dX6_rowHasPointsOf_20 ?_
      replace h := h.2
      refine v_callVi X (As := [.int (s_P (x_3).toNatClampNeg)]) (rest := []) 1 0 (c_X5_hasPoint (l := vl E) (D := vD E) (T := T) (o_p0 := o_p2) (a_p0 := a_p2) (s_p0_there := s_p2_there) (s_p0_kind := s_p2_kind) (s_p0_tag := s_p2_tag) (s_p0_size := s_p2_size) (s_p0_lineCount := s_p2_lineCount) (x_1 := (s_P (x_3).toNatClampNeg)) h) gX6_rowHasPointsOf_X5_hasPoint rfl rfl (by decide +kernel) ⟨Nat.zero_le _, Nat.zero_le _⟩ ⟨rfl, rfl, by decide, by decide⟩ (Nat.le_of_ble_eq_true rfl) rfl rfl (wr := [vO o_p0 3 [.ref (a_p0 0), .ref (a_p0 1), .ref (a_p0 2), .ref (a_p0 3), .ref (a_p0 4), .ref (a_p0 5), .ref (a_p0 6), .ref (a_p0 7), .ref o_S, .int s_p0_sentSize, .int s_p0_latestFinding, .int s_p0_latestTries, .long s_p0_latestAsked], vI T o_P 12 s_P, vR T 3 (a_p0 1) 4 s_p0_rowPlaces, vI T (a_p0 2) 4 s_p0_rowSizes]) [4] [0, 1, 2, 3] rfl rfl rfl rfl (by decide) rfl dX6_rowHasPointsOf_21 (fun r_21 u h => ?_)
      refine v_ws (ws' := (cl_X6_rowHasPointsOf T o_p0 a_p0 o_S o_P o_p2 a_p2 s_p0_sentSize s_p0_latestFinding s_p0_latestTries s_p0_latestAsked s_P s_p0_rowPlaces s_p0_rowSizes s_p2_there s_p2_kind s_p2_tag s_p2_size s_p2_lineCount)) [0, 1, 2, 3, 4] rfl rfl ?_
      refine v_if_ne X (tgt := 29) dX6_rowHasPointsOf_24 (by decide) (fun c_24 => ?_) (fun c_24 => ?_)
      · replace h := h.1 c_24
        refine v_iinc X (v := (x_3 + (1 : Int32))) (lv' := [(3, .int (x_3 + (1 : Int32))), (0, .ref o_p0), (1, .int x_1), (2, .ref o_p2)]) 3 dX6_rowHasPointsOf_29 rfl rfl (by decide) rfl ?_
        refine v_goto X (tgt := 2) dX6_rowHasPointsOf_32 (by decide) ?_
        refine v_lv (lv' := [(0, .ref o_p0), (1, .int x_1), (2, .ref o_p2), (3, .int (x_3 + (1 : Int32)))]) [1, 2, 3, 0] rfl ?_
        exact hK_2 _ h
      · replace h := h.2 c_24
        refine v_iconst X dX6_rowHasPointsOf_27 (v := (0 : Int32)) (by decide) ?_
        exact r _ _ _ () _ dX6_rowHasPointsOf_28 h.1 h.2 rfl
set_option maxHeartbeats 4000000 in
set_option maxRecDepth 100000 in
theorem c_X6_rowHasPointsOf {l : Launch} {D : va_G} {T : Nat → ClassId} {o_p0 : Nat} {a_p0 : Nat → Nat} {o_S : Nat} {o_P : Nat} {o_p2 : Nat} {a_p2 : Nat → Nat} {s_p0_sentSize : Int32} {s_p0_latestFinding : Int32} {s_p0_latestTries : Int32} {s_p0_latestAsked : Int64} {s_P : Nat → Int32} {s_p0_rowPlaces : Nat → Option Nat} {s_p0_rowSizes : Nat → Int32} {s_p2_there : Int32} {s_p2_kind : Int32} {s_p2_tag : Int32} {s_p2_size : Int32} {s_p2_lineCount : Int32} {x_1 : Int32} {Q : Int32 → Prop} (h : w_X6_rowHasPointsOf x_1 s_P s_p0_rowPlaces s_p0_rowSizes s_p2_size o_P Q) : vCi l D (vT T) yX6_rowHasPointsOf wsX6_rowHasPointsOf (vr 1 21) [.ref o_p0, .int x_1, .ref o_p2] (cl_X6_rowHasPointsOf T o_p0 a_p0 o_S o_P o_p2 a_p2 s_p0_sentSize s_p0_latestFinding s_p0_latestTries s_p0_latestAsked s_P s_p0_rowPlaces s_p0_rowSizes s_p2_there s_p2_kind s_p2_tag s_p2_size s_p2_lineCount) (fun v (u : Unit) => Q v) (fun (u : Unit) => (cl_X6_rowHasPointsOf T o_p0 a_p0 o_S o_P o_p2 a_p2 s_p0_sentSize s_p0_latestFinding s_p0_latestTries s_p0_latestAsked s_P s_p0_rowPlaces s_p0_rowSizes s_p2_there s_p2_kind s_p2_tag s_p2_size s_p2_lineCount)) := by
  refine vC_z (cc := cX6_rowHasPointsOf) (nL := 4) (by decide +kernel) rfl ⟨rfl, rfl⟩ (Nat.le_of_ble_eq_true rfl) rfl ?_
  intro E el eD X r
  unfold w_X6_rowHasPointsOf at h
  refine v_iconst X dX6_rowHasPointsOf_0 (v := (0 : Int32)) (by decide) ?_
  refine v_istore_n X (lv' := [(3, .int (0 : Int32)), (0, .ref o_p0), (1, .int x_1), (2, .ref o_p2)]) dX6_rowHasPointsOf_1 rfl (by decide) rfl ?_
  refine v_lv (lv' := [(0, .ref o_p0), (1, .int x_1), (2, .ref o_p2), (3, .int (0 : Int32))]) [1, 2, 3, 0] rfl ?_
  obtain ⟨n_, h⟩ := h
  exact k_X6_rowHasPointsOf_2 X r n_ _ h
-- X6_setOfRow
abbrev cl_X6_setOfRow (T : Nat → ClassId) (o_p0 : Nat) (a_p0 : Nat → Nat) (o_S : Nat) (o_P : Nat) (s_p0_sentSize : Int32) (s_p0_latestFinding : Int32) (s_p0_latestTries : Int32) (s_p0_latestAsked : Int64) (s_P : Nat → Int32) (s_p0_rowPlaces : Nat → Option Nat) (s_p0_rowSizes : Nat → Int32) : va_W := [vO o_p0 3 [.ref (a_p0 0), .ref (a_p0 1), .ref (a_p0 2), .ref (a_p0 3), .ref (a_p0 4), .ref (a_p0 5), .ref (a_p0 6), .ref (a_p0 7), .ref o_S, .int s_p0_sentSize, .int s_p0_latestFinding, .int s_p0_latestTries, .long s_p0_latestAsked], vI T o_P 12 s_P, vR T 3 (a_p0 1) 4 s_p0_rowPlaces, vI T (a_p0 2) 4 s_p0_rowSizes]
abbrev r_X6_setOfRow (E : vE) (T : Nat → ClassId) (o_p0 : Nat) (a_p0 : Nat → Nat) (o_S : Nat) (o_P : Nat) (s_p0_sentSize : Int32) (s_p0_latestFinding : Int32) (s_p0_latestTries : Int32) (s_p0_latestAsked : Int64) (s_P : Nat → Int32) (s_p0_rowPlaces : Nat → Option Nat) (s_p0_rowSizes : Nat → Int32) (Q : Int64 → Prop) : Prop := vRl E cX6_setOfRow (fun v (u : Unit) => Q v) (fun (u : Unit) => (cl_X6_setOfRow T o_p0 a_p0 o_S o_P s_p0_sentSize s_p0_latestFinding s_p0_latestTries s_p0_latestAsked s_P s_p0_rowPlaces s_p0_rowSizes))
def w_X6_setOfRow_5s (x_1 : Int32) (s_P : Nat → Int32) (s_p0_rowPlaces : Nat → Option Nat) (s_p0_rowSizes : Nat → Int32) (o_P : Nat) (Q : Int64 → Prop) (K_5 : (Int64) → (Int32) → Prop) (x_2 : Int64) (x_4 : Int32) : Prop := (vp_in x_1 4 ∧ (((s_p0_rowSizes (x_1).toNatClampNeg) ≤ x_4 → (Q x_2)) ∧ (¬ (s_p0_rowSizes (x_1).toNatClampNeg) ≤ x_4 → (vp_in x_1 4 ∧ s_p0_rowPlaces (x_1).toNatClampNeg = some o_P ∧ (vp_in x_4 12 ∧ (K_5 (x_2 ||| (vshl (1 : Int64) (s_P (x_4).toNatClampNeg))) (x_4 + (1 : Int32))))))))
def w_X6_setOfRow_5 (x_1 : Int32) (s_P : Nat → Int32) (s_p0_rowPlaces : Nat → Option Nat) (s_p0_rowSizes : Nat → Int32) (o_P : Nat) (Q : Int64 → Prop) : Nat → (Int64) → (Int32) → Prop
  | 0 => fun _ _ => False
  | n_ + 1 => w_X6_setOfRow_5s x_1 s_P s_p0_rowPlaces s_p0_rowSizes o_P Q (w_X6_setOfRow_5 x_1 s_P s_p0_rowPlaces s_p0_rowSizes o_P Q n_)
def w_X6_setOfRow (x_1 : Int32) (s_P : Nat → Int32) (s_p0_rowPlaces : Nat → Option Nat) (s_p0_rowSizes : Nat → Int32) (o_P : Nat) (Q : Int64 → Prop) : Prop := (∃ n_, w_X6_setOfRow_5 x_1 s_P s_p0_rowPlaces s_p0_rowSizes o_P Q n_ (0 : Int64) (0 : Int32))
-- X6_setOfRow
theorem iX6_setOfRow_X6 : ∀ w ∈ wsX60, w ∈ wsX6_setOfRow := by decide +kernel
set_option maxHeartbeats 4000000 in
set_option maxRecDepth 100000 in
theorem k_X6_setOfRow_5 {E : vE} {T : Nat → ClassId} {o_p0 : Nat} {a_p0 : Nat → Nat} {o_S : Nat} {o_P : Nat} {s_p0_sentSize : Int32} {s_p0_latestFinding : Int32} {s_p0_latestTries : Int32} {s_p0_latestAsked : Int64} {s_P : Nat → Int32} {s_p0_rowPlaces : Nat → Option Nat} {s_p0_rowSizes : Nat → Int32} {x_1 : Int32} {Q : Int64 → Prop} (X : vX E cX6_setOfRow 5 RX6 wsX6_setOfRow (vT T) (vr 0 0)) (r : r_X6_setOfRow E T o_p0 a_p0 o_S o_P s_p0_sentSize s_p0_latestFinding s_p0_latestTries s_p0_latestAsked s_P s_p0_rowPlaces s_p0_rowSizes Q) : ∀ (n_ : Nat) (x_2 : Int64) (x_4 : Int32), w_X6_setOfRow_5 x_1 s_P s_p0_rowPlaces s_p0_rowSizes o_P Q n_ x_2 x_4 → V E 0 0 5 [(0, .ref o_p0), (1, .int x_1), (2, .long x_2), (4, .int x_4)] [] (cl_X6_setOfRow T o_p0 a_p0 o_S o_P s_p0_sentSize s_p0_latestFinding s_p0_latestTries s_p0_latestAsked s_P s_p0_rowPlaces s_p0_rowSizes) := by
  intro n_
  induction n_ with
  | zero => intro x_2 x_4 h; exact h.elim
  | succ n_ hK_5 =>
    intro x_2 x_4 h
    replace h : w_X6_setOfRow_5s x_1 s_P s_p0_rowPlaces s_p0_rowSizes o_P Q (w_X6_setOfRow_5 x_1 s_P s_p0_rowPlaces s_p0_rowSizes o_P Q n_) x_2 x_4 := h
    unfold w_X6_setOfRow_5s at h
    refine v_iload X 3 dX6_setOfRow_5 rfl ?_
    refine v_aload_n X 0 dX6_setOfRow_7 rfl rfl ?_
    refine v_get X 0 2 (F := TX6) (N := 13) iX6_setOfRow_X6 rfl rfl (by decide) (List.mem_of_getElem? (i := 1) rfl) rfl rfl dX6_setOfRow_8 ?_
    refine v_iload_n X 1 dX6_setOfRow_11 rfl rfl ?_
    refine v_iald X 3 0 rfl rfl h.1 dX6_setOfRow_12 ?_
    replace h := h.2
    refine v_icmp_ge X (tgt := 36) dX6_setOfRow_13 (by decide) (fun c_13 => ?_) (fun c_13 => ?_)
    · replace h := h.1 c_13
      refine v_lload_n X 2 dX6_setOfRow_36 rfl rfl ?_
      exact r _ _ _ () _ dX6_setOfRow_37 h rfl
    · replace h := h.2 c_13
      refine v_lload_n X 2 dX6_setOfRow_16 rfl rfl ?_
      refine v_lconst X dX6_setOfRow_17 (v := (1 : Int64)) (by decide) ?_
      refine v_aload_n X 0 dX6_setOfRow_18 rfl rfl ?_
      refine v_get X 0 1 (F := TX6) (N := 13) iX6_setOfRow_X6 rfl rfl (by decide) (List.mem_of_getElem? (i := 2) rfl) rfl rfl dX6_setOfRow_19 ?_
      refine v_iload_n X 1 dX6_setOfRow_22 rfl rfl ?_
      refine v_aaldA X 2 3 rfl rfl h.1 h.2.1 dX6_setOfRow_23 ?_
      replace h := h.2.2
      refine v_iload X 3 dX6_setOfRow_24 rfl ?_
      refine v_iald X 1 0 rfl rfl h.1 dX6_setOfRow_26 ?_
      replace h := h.2
      refine v_lshl X dX6_setOfRow_27 ?_
      refine v_lor X dX6_setOfRow_28 ?_
      refine v_lstore_n X (lv' := [(2, .long (x_2 ||| (vshl (1 : Int64) (s_P (x_4).toNatClampNeg)))), (0, .ref o_p0), (1, .int x_1), (4, .int x_4)]) dX6_setOfRow_29 rfl (by decide) rfl ?_
      refine v_iinc X (v := (x_4 + (1 : Int32))) (lv' := [(4, .int (x_4 + (1 : Int32))), (2, .long (x_2 ||| (vshl (1 : Int64) (s_P (x_4).toNatClampNeg)))), (0, .ref o_p0), (1, .int x_1)]) 3 dX6_setOfRow_30 rfl rfl (by decide) rfl ?_
      refine v_goto X (tgt := 5) dX6_setOfRow_33 (by decide) ?_
      refine v_lv (lv' := [(0, .ref o_p0), (1, .int x_1), (2, .long (x_2 ||| (vshl (1 : Int64) (s_P (x_4).toNatClampNeg)))), (4, .int (x_4 + (1 : Int32)))]) [2, 3, 1, 0] rfl ?_
      exact hK_5 _ _ h
set_option maxHeartbeats 4000000 in
set_option maxRecDepth 100000 in
theorem c_X6_setOfRow {l : Launch} {D : va_G} {T : Nat → ClassId} {o_p0 : Nat} {a_p0 : Nat → Nat} {o_S : Nat} {o_P : Nat} {s_p0_sentSize : Int32} {s_p0_latestFinding : Int32} {s_p0_latestTries : Int32} {s_p0_latestAsked : Int64} {s_P : Nat → Int32} {s_p0_rowPlaces : Nat → Option Nat} {s_p0_rowSizes : Nat → Int32} {x_1 : Int32} {Q : Int64 → Prop} (h : w_X6_setOfRow x_1 s_P s_p0_rowPlaces s_p0_rowSizes o_P Q) : vCl l D (vT T) yX6_setOfRow wsX6_setOfRow (vr 0 0) [.ref o_p0, .int x_1] (cl_X6_setOfRow T o_p0 a_p0 o_S o_P s_p0_sentSize s_p0_latestFinding s_p0_latestTries s_p0_latestAsked s_P s_p0_rowPlaces s_p0_rowSizes) (fun v (u : Unit) => Q v) (fun (u : Unit) => (cl_X6_setOfRow T o_p0 a_p0 o_S o_P s_p0_sentSize s_p0_latestFinding s_p0_latestTries s_p0_latestAsked s_P s_p0_rowPlaces s_p0_rowSizes)) := by
  refine vC_l (cc := cX6_setOfRow) (nL := 5) (by decide +kernel) rfl ⟨rfl, rfl⟩ (Nat.le_of_ble_eq_true rfl) rfl ?_
  intro E el eD X r
  unfold w_X6_setOfRow at h
  refine v_lconst X dX6_setOfRow_0 (v := (0 : Int64)) (by decide) ?_
  refine v_lstore_n X (lv' := [(2, .long (0 : Int64)), (0, .ref o_p0), (1, .int x_1)]) dX6_setOfRow_1 rfl (by decide) rfl ?_
  refine v_iconst X dX6_setOfRow_2 (v := (0 : Int32)) (by decide) ?_
  refine v_istore X (lv' := [(4, .int (0 : Int32)), (2, .long (0 : Int64)), (0, .ref o_p0), (1, .int x_1)]) dX6_setOfRow_3 (by decide) rfl ?_
  refine v_lv (lv' := [(0, .ref o_p0), (1, .int x_1), (2, .long (0 : Int64)), (4, .int (0 : Int32))]) [2, 3, 1, 0] rfl ?_
  obtain ⟨n_, h⟩ := h
  exact k_X6_setOfRow_5 X r n_ _ _ h
-- X6_line
abbrev cl_X6_line (T : Nat → ClassId) (o_p0 : Nat) (a_p0 : Nat → Nat) (o_S : Nat) (o_P : Nat) (o_W : Nat) (a_W : Nat → Nat) (s_p0_sentSize : Int32) (s_p0_latestFinding : Int32) (s_p0_latestTries : Int32) (s_p0_latestAsked : Int64) (s_P : Nat → Int32) (s_W_there : Int32) (s_W_kind : Int32) (s_W_tag : Int32) (s_W_size : Int32) (s_W_lineCount : Int32) (s_W_near : Nat → Int64) (s_W_sets : Nat → Int64) (s_W_through : Nat → Int64) (s_p0_findingTimes : Nat → Int32) (s_p0_rowPlaces : Nat → Option Nat) (s_p0_rowSizes : Nat → Int32) (s_p0_worlds : Nat → Option Nat) : va_W := [vO o_p0 3 [.ref (a_p0 0), .ref (a_p0 1), .ref (a_p0 2), .ref (a_p0 3), .ref (a_p0 4), .ref (a_p0 5), .ref (a_p0 6), .ref (a_p0 7), .ref o_S, .int s_p0_sentSize, .int s_p0_latestFinding, .int s_p0_latestTries, .long s_p0_latestAsked], vI T o_P 12 s_P, vO o_W 2 [.ref (a_W 0), .ref (a_W 1), .ref (a_W 2), .int s_W_there, .int s_W_kind, .int s_W_tag, .int s_W_size, .int s_W_lineCount], vJ T (a_W 2) 45 s_W_near, vJ T (a_W 0) 45 s_W_sets, vJ T (a_W 1) 45 s_W_through, vI T (a_p0 3) 6 s_p0_findingTimes, vR T 3 (a_p0 1) 4 s_p0_rowPlaces, vI T (a_p0 2) 4 s_p0_rowSizes, vR T 2 (a_p0 0) 6 s_p0_worlds]
abbrev r_X6_line (E : vE) (T : Nat → ClassId) (o_p0 : Nat) (a_p0 : Nat → Nat) (o_S : Nat) (o_P : Nat) (o_W : Nat) (a_W : Nat → Nat) (s_p0_sentSize : Int32) (s_p0_latestTries : Int32) (s_p0_latestAsked : Int64) (s_P : Nat → Int32) (s_W_there : Int32) (s_W_kind : Int32) (s_W_tag : Int32) (s_W_size : Int32) (s_p0_rowPlaces : Nat → Option Nat) (s_p0_rowSizes : Nat → Int32) (s_p0_worlds : Nat → Option Nat) (Q : Int32 → (Int32) → (Int32) → (Nat → Int64) → (Nat → Int64) → (Nat → Int64) → (Nat → Int32) → Prop) : Prop := vRi E cX6_line (fun v (u : (Int32) × (Int32) × (Nat → Int64) × (Nat → Int64) × (Nat → Int64) × (Nat → Int32)) => Q v u.1 u.2.1 u.2.2.1 u.2.2.2.1 u.2.2.2.2.1 u.2.2.2.2.2) (fun (u : (Int32) × (Int32) × (Nat → Int64) × (Nat → Int64) × (Nat → Int64) × (Nat → Int32)) => (cl_X6_line T o_p0 a_p0 o_S o_P o_W a_W s_p0_sentSize u.1 s_p0_latestTries s_p0_latestAsked s_P s_W_there s_W_kind s_W_tag s_W_size u.2.1 u.2.2.1 u.2.2.2.1 u.2.2.2.2.1 u.2.2.2.2.2 s_p0_rowPlaces s_p0_rowSizes s_p0_worlds))
def w_X6_line_58 (s_p0_latestFinding : Int32) (s_P : Nat → Int32) (s_W_there : Int32) (s_W_kind : Int32) (s_W_size : Int32) (s_W_lineCount : Int32) (s_W_near : Nat → Int64) (s_W_sets : Nat → Int64) (s_W_through : Nat → Int64) (s_p0_findingTimes : Nat → Int32) (s_p0_rowPlaces : Nat → Option Nat) (s_p0_rowSizes : Nat → Int32) (s_p0_worlds : Nat → Option Nat) (o_W : Nat) (o_P : Nat) (Q : Int32 → (Int32) → (Int32) → (Nat → Int64) → (Nat → Int64) → (Nat → Int64) → (Nat → Int32) → Prop) : Prop := (w_X6_refused (1 : Int32) s_p0_latestFinding s_p0_findingTimes (fun (r_60 : Int32) (u_60_0 : Int32) (u_60_1 : Nat → Int32) => (Q r_60 u_60_0 s_W_lineCount s_W_near s_W_sets s_W_through u_60_1)))
def w_X6_line_42 (x_2 : Int32) (s_p0_latestFinding : Int32) (s_P : Nat → Int32) (s_W_there : Int32) (s_W_kind : Int32) (s_W_size : Int32) (s_W_lineCount : Int32) (s_W_near : Nat → Int64) (s_W_sets : Nat → Int64) (s_W_through : Nat → Int64) (s_p0_findingTimes : Nat → Int32) (s_p0_rowPlaces : Nat → Option Nat) (s_p0_rowSizes : Nat → Int32) (s_p0_worlds : Nat → Option Nat) (o_W : Nat) (o_P : Nat) (Q : Int32 → (Int32) → (Int32) → (Nat → Int64) → (Nat → Int64) → (Nat → Int64) → (Nat → Int32) → Prop) : Prop := ((s_W_there = 0 → (w_X6_line_58 s_p0_latestFinding s_P s_W_there s_W_kind s_W_size s_W_lineCount s_W_near s_W_sets s_W_through s_p0_findingTimes s_p0_rowPlaces s_p0_rowSizes s_p0_worlds o_W o_P Q)) ∧ (¬ s_W_there = 0 → (vp_in x_2 4 ∧ ((0 ≤ (s_p0_rowSizes (x_2).toNatClampNeg) → ((s_W_kind = 0 → (w_X6_rowHasPointsOf x_2 s_P s_p0_rowPlaces s_p0_rowSizes s_W_size o_P (fun (r_80 : Int32) => ((¬ r_80 = 0 → (w_X6_setOfRow x_2 s_P s_p0_rowPlaces s_p0_rowSizes o_P (fun (r_94 : Int64) => (w_J13_bitCount_95d88 r_94 (fun (r_101 : Int32) => (((2 : Int32) ≤ r_101 → (w_X5_add r_94 s_W_size s_W_lineCount s_W_near s_W_sets s_W_through (fun (r_117 : Int32) (u_117_0 : Int32) (u_117_1 : Nat → Int64) (u_117_2 : Nat → Int64) (u_117_3 : Nat → Int64) => (Q (u_117_0 - (1 : Int32)) s_p0_latestFinding u_117_0 u_117_1 u_117_2 u_117_3 s_p0_findingTimes)))) ∧ (¬ (2 : Int32) ≤ r_101 → (w_X6_refused (5 : Int32) s_p0_latestFinding s_p0_findingTimes (fun (r_110 : Int32) (u_110_0 : Int32) (u_110_1 : Nat → Int32) => (Q r_110 u_110_0 s_W_lineCount s_W_near s_W_sets s_W_through u_110_1)))))))))) ∧ (r_80 = 0 → (w_X6_refused (2 : Int32) s_p0_latestFinding s_p0_findingTimes (fun (r_88 : Int32) (u_88_0 : Int32) (u_88_1 : Nat → Int32) => (Q r_88 u_88_0 s_W_lineCount s_W_near s_W_sets s_W_through u_88_1)))))))) ∧ (¬ s_W_kind = 0 → (w_X6_refused (3 : Int32) s_p0_latestFinding s_p0_findingTimes (fun (r_73 : Int32) (u_73_0 : Int32) (u_73_1 : Nat → Int32) => (Q r_73 u_73_0 s_W_lineCount s_W_near s_W_sets s_W_through u_73_1)))))) ∧ (¬ 0 ≤ (s_p0_rowSizes (x_2).toNatClampNeg) → (w_X6_line_58 s_p0_latestFinding s_P s_W_there s_W_kind s_W_size s_W_lineCount s_W_near s_W_sets s_W_through s_p0_findingTimes s_p0_rowPlaces s_p0_rowSizes s_p0_worlds o_W o_P Q))))))
def w_X6_line_14 (s_p0_latestFinding : Int32) (s_P : Nat → Int32) (s_W_there : Int32) (s_W_kind : Int32) (s_W_size : Int32) (s_W_lineCount : Int32) (s_W_near : Nat → Int64) (s_W_sets : Nat → Int64) (s_W_through : Nat → Int64) (s_p0_findingTimes : Nat → Int32) (s_p0_rowPlaces : Nat → Option Nat) (s_p0_rowSizes : Nat → Int32) (s_p0_worlds : Nat → Option Nat) (o_W : Nat) (o_P : Nat) (Q : Int32 → (Int32) → (Int32) → (Nat → Int64) → (Nat → Int64) → (Nat → Int64) → (Nat → Int32) → Prop) : Prop := (Q (-1 : Int32) s_p0_latestFinding s_W_lineCount s_W_near s_W_sets s_W_through s_p0_findingTimes)
def w_X6_line (x_1 : Int32) (x_2 : Int32) (s_p0_latestFinding : Int32) (s_P : Nat → Int32) (s_W_there : Int32) (s_W_kind : Int32) (s_W_size : Int32) (s_W_lineCount : Int32) (s_W_near : Nat → Int64) (s_W_sets : Nat → Int64) (s_W_through : Nat → Int64) (s_p0_findingTimes : Nat → Int32) (s_p0_rowPlaces : Nat → Option Nat) (s_p0_rowSizes : Nat → Int32) (s_p0_worlds : Nat → Option Nat) (o_W : Nat) (o_P : Nat) (Q : Int32 → (Int32) → (Int32) → (Nat → Int64) → (Nat → Int64) → (Nat → Int64) → (Nat → Int32) → Prop) : Prop := (w_X6_isWorldNumber x_1 (fun (r_1 : Int32) => ((r_1 = 0 → (w_X6_line_14 s_p0_latestFinding s_P s_W_there s_W_kind s_W_size s_W_lineCount s_W_near s_W_sets s_W_through s_p0_findingTimes s_p0_rowPlaces s_p0_rowSizes s_p0_worlds o_W o_P Q)) ∧ (¬ r_1 = 0 → (w_X6_isRowNumber x_2 (fun (r_8 : Int32) => ((¬ r_8 = 0 → (vp_in x_1 6 ∧ s_p0_worlds (x_1).toNatClampNeg = some o_W ∧ ((s_W_there = 0 → (w_X6_line_42 x_2 s_p0_latestFinding s_P s_W_there s_W_kind s_W_size s_W_lineCount s_W_near s_W_sets s_W_through s_p0_findingTimes s_p0_rowPlaces s_p0_rowSizes s_p0_worlds o_W o_P Q)) ∧ (¬ s_W_there = 0 → ((s_W_lineCount < (45 : Int32) → (w_X6_line_42 x_2 s_p0_latestFinding s_P s_W_there s_W_kind s_W_size s_W_lineCount s_W_near s_W_sets s_W_through s_p0_findingTimes s_p0_rowPlaces s_p0_rowSizes s_p0_worlds o_W o_P Q)) ∧ (¬ s_W_lineCount < (45 : Int32) → (Q (-2 : Int32) s_p0_latestFinding s_W_lineCount s_W_near s_W_sets s_W_through s_p0_findingTimes))))))) ∧ (r_8 = 0 → (w_X6_line_14 s_p0_latestFinding s_P s_W_there s_W_kind s_W_size s_W_lineCount s_W_near s_W_sets s_W_through s_p0_findingTimes s_p0_rowPlaces s_p0_rowSizes s_p0_worlds o_W o_P Q)))))))))
-- X6_line
theorem iX6_line_X5 : ∀ w ∈ wsX50, w ∈ wsX6_line := by decide +kernel
theorem iX6_line_X6 : ∀ w ∈ wsX60, w ∈ wsX6_line := by decide +kernel
set_option maxHeartbeats 4000000 in
set_option maxRecDepth 100000 in
theorem k_X6_line_58 {E : vE} {T : Nat → ClassId} {o_p0 : Nat} {a_p0 : Nat → Nat} {o_S : Nat} {o_P : Nat} {o_W : Nat} {a_W : Nat → Nat} {s_p0_sentSize : Int32} {s_p0_latestFinding : Int32} {s_p0_latestTries : Int32} {s_p0_latestAsked : Int64} {s_P : Nat → Int32} {s_W_there : Int32} {s_W_kind : Int32} {s_W_tag : Int32} {s_W_size : Int32} {s_W_lineCount : Int32} {s_W_near : Nat → Int64} {s_W_sets : Nat → Int64} {s_W_through : Nat → Int64} {s_p0_findingTimes : Nat → Int32} {s_p0_rowPlaces : Nat → Option Nat} {s_p0_rowSizes : Nat → Int32} {s_p0_worlds : Nat → Option Nat} {Q : Int32 → (Int32) → (Int32) → (Nat → Int64) → (Nat → Int64) → (Nat → Int64) → (Nat → Int32) → Prop} (X : vX E cX6_line 6 RX6 wsX6_line (vT T) (vr 2 45)) (r : r_X6_line E T o_p0 a_p0 o_S o_P o_W a_W s_p0_sentSize s_p0_latestTries s_p0_latestAsked s_P s_W_there s_W_kind s_W_tag s_W_size s_p0_rowPlaces s_p0_rowSizes s_p0_worlds Q) (h : w_X6_line_58 s_p0_latestFinding s_P s_W_there s_W_kind s_W_size s_W_lineCount s_W_near s_W_sets s_W_through s_p0_findingTimes s_p0_rowPlaces s_p0_rowSizes s_p0_worlds o_W o_P Q) : V E 0 0 58 [(0, .ref o_p0)] [] (cl_X6_line T o_p0 a_p0 o_S o_P o_W a_W s_p0_sentSize s_p0_latestFinding s_p0_latestTries s_p0_latestAsked s_P s_W_there s_W_kind s_W_tag s_W_size s_W_lineCount s_W_near s_W_sets s_W_through s_p0_findingTimes s_p0_rowPlaces s_p0_rowSizes s_p0_worlds) := by
  unfold w_X6_line_58 at h
  refine v_aload_n X 0 dX6_line_58 rfl rfl ?_
  refine v_iconst X dX6_line_59 (v := (1 : Int32)) (by decide) ?_
  refine v_callVi X (As := [.int (1 : Int32)]) (rest := []) 1 0 (c_X6_refused (l := vl E) (D := vD E) (T := T) (o_p0 := o_p0) (a_p0 := a_p0) (o_S := o_S) (s_p0_sentSize := s_p0_sentSize) (s_p0_latestFinding := s_p0_latestFinding) (s_p0_latestTries := s_p0_latestTries) (s_p0_latestAsked := s_p0_latestAsked) (s_p0_findingTimes := s_p0_findingTimes) (x_1 := (1 : Int32)) h) gX6_line_X6_refused rfl rfl (by decide +kernel) ⟨Nat.zero_le _, Nat.zero_le _⟩ ⟨rfl, rfl, by decide, by decide⟩ (Nat.le_of_ble_eq_true rfl) rfl rfl (wr := [vI T o_P 12 s_P, vO o_W 2 [.ref (a_W 0), .ref (a_W 1), .ref (a_W 2), .int s_W_there, .int s_W_kind, .int s_W_tag, .int s_W_size, .int s_W_lineCount], vJ T (a_W 2) 45 s_W_near, vJ T (a_W 0) 45 s_W_sets, vJ T (a_W 1) 45 s_W_through, vR T 3 (a_p0 1) 4 s_p0_rowPlaces, vI T (a_p0 2) 4 s_p0_rowSizes, vR T 2 (a_p0 0) 6 s_p0_worlds]) [0, 6] [1, 2, 3, 4, 5, 7, 8, 9] rfl rfl rfl rfl (by decide) rfl dX6_line_60 (fun r_60 u h => ?_)
  obtain ⟨u_60_0, u_60_1⟩ := u
  dsimp only at h
  refine v_ws (ws' := (cl_X6_line T o_p0 a_p0 o_S o_P o_W a_W s_p0_sentSize u_60_0 s_p0_latestTries s_p0_latestAsked s_P s_W_there s_W_kind s_W_tag s_W_size s_W_lineCount s_W_near s_W_sets s_W_through u_60_1 s_p0_rowPlaces s_p0_rowSizes s_p0_worlds)) [8, 0, 1, 2, 3, 4, 9, 5, 6, 7] rfl rfl ?_
  exact r _ _ _ (u_60_0, s_W_lineCount, s_W_near, s_W_sets, s_W_through, u_60_1) _ dX6_line_63 h rfl
set_option maxHeartbeats 4000000 in
set_option maxRecDepth 100000 in
theorem k_X6_line_42 {E : vE} {T : Nat → ClassId} {o_p0 : Nat} {a_p0 : Nat → Nat} {o_S : Nat} {o_P : Nat} {o_W : Nat} {a_W : Nat → Nat} {s_p0_sentSize : Int32} {s_p0_latestFinding : Int32} {s_p0_latestTries : Int32} {s_p0_latestAsked : Int64} {s_P : Nat → Int32} {s_W_there : Int32} {s_W_kind : Int32} {s_W_tag : Int32} {s_W_size : Int32} {s_W_lineCount : Int32} {s_W_near : Nat → Int64} {s_W_sets : Nat → Int64} {s_W_through : Nat → Int64} {s_p0_findingTimes : Nat → Int32} {s_p0_rowPlaces : Nat → Option Nat} {s_p0_rowSizes : Nat → Int32} {s_p0_worlds : Nat → Option Nat} {x_2 : Int32} {Q : Int32 → (Int32) → (Int32) → (Nat → Int64) → (Nat → Int64) → (Nat → Int64) → (Nat → Int32) → Prop} (X : vX E cX6_line 6 RX6 wsX6_line (vT T) (vr 2 45)) (r : r_X6_line E T o_p0 a_p0 o_S o_P o_W a_W s_p0_sentSize s_p0_latestTries s_p0_latestAsked s_P s_W_there s_W_kind s_W_tag s_W_size s_p0_rowPlaces s_p0_rowSizes s_p0_worlds Q) (h : w_X6_line_42 x_2 s_p0_latestFinding s_P s_W_there s_W_kind s_W_size s_W_lineCount s_W_near s_W_sets s_W_through s_p0_findingTimes s_p0_rowPlaces s_p0_rowSizes s_p0_worlds o_W o_P Q) : V E 0 0 42 [(0, .ref o_p0), (2, .int x_2), (3, .ref o_W)] [] (cl_X6_line T o_p0 a_p0 o_S o_P o_W a_W s_p0_sentSize s_p0_latestFinding s_p0_latestTries s_p0_latestAsked s_P s_W_there s_W_kind s_W_tag s_W_size s_W_lineCount s_W_near s_W_sets s_W_through s_p0_findingTimes s_p0_rowPlaces s_p0_rowSizes s_p0_worlds) := by
  unfold w_X6_line_42 at h
  refine v_aload_n X 2 dX6_line_42 rfl rfl ?_
  refine v_getN X 2 3 (F := TX5) (N := 8) iX6_line_X5 rfl rfl (by decide) (List.mem_of_getElem? (i := 23) rfl) rfl rfl dX6_line_43 ?_
  refine v_if_eq X (tgt := 58) dX6_line_46 (by decide) (fun c_46 => ?_) (fun c_46 => ?_)
  · replace h := h.1 c_46
    refine v_lv (lv' := [(0, .ref o_p0)]) [0] rfl ?_
    exact k_X6_line_58 X r h
  · replace h := h.2 c_46
    refine v_aload_n X 0 dX6_line_49 rfl rfl ?_
    refine v_get X 0 2 (F := TX6) (N := 13) iX6_line_X6 rfl rfl (by decide) (List.mem_of_getElem? (i := 2) rfl) rfl rfl dX6_line_50 ?_
    refine v_iload_n X 1 dX6_line_53 rfl rfl ?_
    refine v_iald X 8 0 rfl rfl h.1 dX6_line_54 ?_
    replace h := h.2
    refine v_if_ge X (tgt := 64) dX6_line_55 (by decide) (fun c_55 => ?_) (fun c_55 => ?_)
    · replace h := h.1 c_55
      refine v_aload_n X 2 dX6_line_64 rfl rfl ?_
      refine v_getN X 2 4 (F := TX5) (N := 8) iX6_line_X5 rfl rfl (by decide) (List.mem_of_getElem? (i := 24) rfl) rfl rfl dX6_line_65 ?_
      refine v_if_eq X (tgt := 77) dX6_line_68 (by decide) (fun c_68 => ?_) (fun c_68 => ?_)
      · replace h := h.1 c_68
        refine v_aload_n X 0 dX6_line_77 rfl rfl ?_
        refine v_iload_n X 1 dX6_line_78 rfl rfl ?_
        refine v_aload_n X 2 dX6_line_79 rfl rfl ?_
        refine v_callVi X (As := [.int x_2, .ref o_W]) (rest := []) 2 0 (c_X6_rowHasPointsOf (l := vl E) (D := vD E) (T := T) (o_p0 := o_p0) (a_p0 := a_p0) (o_S := o_S) (o_P := o_P) (o_p2 := o_W) (a_p2 := a_W) (s_p0_sentSize := s_p0_sentSize) (s_p0_latestFinding := s_p0_latestFinding) (s_p0_latestTries := s_p0_latestTries) (s_p0_latestAsked := s_p0_latestAsked) (s_P := s_P) (s_p0_rowPlaces := s_p0_rowPlaces) (s_p0_rowSizes := s_p0_rowSizes) (s_p2_there := s_W_there) (s_p2_kind := s_W_kind) (s_p2_tag := s_W_tag) (s_p2_size := s_W_size) (s_p2_lineCount := s_W_lineCount) (x_1 := x_2) h) gX6_line_X6_rowHasPointsOf rfl rfl (by decide +kernel) ⟨Nat.zero_le _, Nat.zero_le _⟩ ⟨rfl, rfl, by decide, by decide⟩ (Nat.le_of_ble_eq_true rfl) rfl rfl (wr := [vJ T (a_W 2) 45 s_W_near, vJ T (a_W 0) 45 s_W_sets, vJ T (a_W 1) 45 s_W_through, vI T (a_p0 3) 6 s_p0_findingTimes, vR T 2 (a_p0 0) 6 s_p0_worlds]) [0, 1, 7, 8, 2] [3, 4, 5, 6, 9] rfl rfl rfl rfl (by decide) rfl dX6_line_80 (fun r_80 u h => ?_)
        refine v_ws (ws' := (cl_X6_line T o_p0 a_p0 o_S o_P o_W a_W s_p0_sentSize s_p0_latestFinding s_p0_latestTries s_p0_latestAsked s_P s_W_there s_W_kind s_W_tag s_W_size s_W_lineCount s_W_near s_W_sets s_W_through s_p0_findingTimes s_p0_rowPlaces s_p0_rowSizes s_p0_worlds)) [5, 6, 9, 0, 1, 2, 3, 7, 8, 4] rfl rfl ?_
        refine v_if_ne X (tgt := 92) dX6_line_83 (by decide) (fun c_83 => ?_) (fun c_83 => ?_)
        · replace h := h.1 c_83
          refine v_aload_n X 0 dX6_line_92 rfl rfl ?_
          refine v_iload_n X 1 dX6_line_93 rfl rfl ?_
          refine v_callVl X (As := [.int x_2]) (rest := []) 1 0 (c_X6_setOfRow (l := vl E) (D := vD E) (T := T) (o_p0 := o_p0) (a_p0 := a_p0) (o_S := o_S) (o_P := o_P) (s_p0_sentSize := s_p0_sentSize) (s_p0_latestFinding := s_p0_latestFinding) (s_p0_latestTries := s_p0_latestTries) (s_p0_latestAsked := s_p0_latestAsked) (s_P := s_P) (s_p0_rowPlaces := s_p0_rowPlaces) (s_p0_rowSizes := s_p0_rowSizes) (x_1 := x_2) h) gX6_line_X6_setOfRow rfl rfl (by decide +kernel) ⟨Nat.zero_le _, Nat.zero_le _⟩ ⟨rfl, rfl, by decide, by decide⟩ (Nat.le_of_ble_eq_true rfl) rfl rfl (wr := [vO o_W 2 [.ref (a_W 0), .ref (a_W 1), .ref (a_W 2), .int s_W_there, .int s_W_kind, .int s_W_tag, .int s_W_size, .int s_W_lineCount], vJ T (a_W 2) 45 s_W_near, vJ T (a_W 0) 45 s_W_sets, vJ T (a_W 1) 45 s_W_through, vI T (a_p0 3) 6 s_p0_findingTimes, vR T 2 (a_p0 0) 6 s_p0_worlds]) [0, 1, 7, 8] [2, 3, 4, 5, 6, 9] rfl rfl rfl rfl (by decide) rfl dX6_line_94 (fun r_94 u h => ?_)
          refine v_ws (ws' := (cl_X6_line T o_p0 a_p0 o_S o_P o_W a_W s_p0_sentSize s_p0_latestFinding s_p0_latestTries s_p0_latestAsked s_P s_W_there s_W_kind s_W_tag s_W_size s_W_lineCount s_W_near s_W_sets s_W_through s_p0_findingTimes s_p0_rowPlaces s_p0_rowSizes s_p0_worlds)) [6, 7, 0, 1, 2, 3, 4, 8, 9, 5] rfl rfl ?_
          refine v_lstore X (lv' := [(4, .long r_94), (0, .ref o_p0), (2, .int x_2), (3, .ref o_W)]) dX6_line_97 (by decide) rfl ?_
          refine v_lload X 0 dX6_line_99 rfl ?_
          refine v_callSi0 X (As := [.long r_94]) (rest := []) 1 (c_J13_bitCount_95d88 (l := vl E) (D := vD E) (T := T) (x_0 := r_94) h) gX6_line_J13_bitCount_95d88 rfl rfl (by decide +kernel) ⟨Nat.zero_le _, Nat.zero_le _⟩ ⟨rfl, rfl, by decide, by decide⟩ (Nat.le_of_ble_eq_true rfl) rfl dX6_line_101 (fun r_101 h => ?_)
          refine v_iconst X dX6_line_104 (v := (2 : Int32)) (by decide) ?_
          refine v_icmp_ge X (tgt := 114) dX6_line_105 (by decide) (fun c_105 => ?_) (fun c_105 => ?_)
          · replace h := h.1 c_105
            refine v_aload_n X 3 dX6_line_114 rfl rfl ?_
            refine v_lload X 0 dX6_line_115 rfl ?_
            refine v_callVi X (As := [.long r_94]) (rest := []) 1 0 (c_X5_add (l := vl E) (D := vD E) (T := T) (o_p0 := o_W) (a_p0 := a_W) (s_p0_there := s_W_there) (s_p0_kind := s_W_kind) (s_p0_tag := s_W_tag) (s_p0_size := s_W_size) (s_p0_lineCount := s_W_lineCount) (s_p0_near := s_W_near) (s_p0_sets := s_W_sets) (s_p0_through := s_W_through) (x_1 := r_94) h) gX6_line_X5_add rfl rfl (by decide +kernel) ⟨Nat.zero_le _, Nat.zero_le _⟩ ⟨rfl, rfl, by decide, by decide⟩ (Nat.le_of_ble_eq_true rfl) rfl rfl (wr := [vO o_p0 3 [.ref (a_p0 0), .ref (a_p0 1), .ref (a_p0 2), .ref (a_p0 3), .ref (a_p0 4), .ref (a_p0 5), .ref (a_p0 6), .ref (a_p0 7), .ref o_S, .int s_p0_sentSize, .int s_p0_latestFinding, .int s_p0_latestTries, .long s_p0_latestAsked], vI T o_P 12 s_P, vI T (a_p0 3) 6 s_p0_findingTimes, vR T 3 (a_p0 1) 4 s_p0_rowPlaces, vI T (a_p0 2) 4 s_p0_rowSizes, vR T 2 (a_p0 0) 6 s_p0_worlds]) [2, 3, 4, 5] [0, 1, 6, 7, 8, 9] rfl rfl rfl rfl (by decide) rfl dX6_line_117 (fun r_117 u h => ?_)
            obtain ⟨u_117_0, u_117_1, u_117_2, u_117_3⟩ := u
            dsimp only at h
            refine v_ws (ws' := (cl_X6_line T o_p0 a_p0 o_S o_P o_W a_W s_p0_sentSize s_p0_latestFinding s_p0_latestTries s_p0_latestAsked s_P s_W_there s_W_kind s_W_tag s_W_size u_117_0 u_117_1 u_117_2 u_117_3 s_p0_findingTimes s_p0_rowPlaces s_p0_rowSizes s_p0_worlds)) [0, 1, 6, 7, 8, 9, 2, 3, 4, 5] rfl rfl ?_
            refine v_pop X dX6_line_120 rfl ?_
            refine v_aload_n X 3 dX6_line_121 rfl rfl ?_
            refine v_getN X 2 7 (F := TX5) (N := 8) iX6_line_X5 rfl rfl (by decide) (List.mem_of_getElem? (i := 33) rfl) rfl rfl dX6_line_122 ?_
            refine v_iconst X dX6_line_125 (v := (1 : Int32)) (by decide) ?_
            refine v_isub X dX6_line_126 ?_
            exact r _ _ _ (s_p0_latestFinding, u_117_0, u_117_1, u_117_2, u_117_3, s_p0_findingTimes) _ dX6_line_127 h rfl
          · replace h := h.2 c_105
            refine v_aload_n X 1 dX6_line_108 rfl rfl ?_
            refine v_iconst X dX6_line_109 (v := (5 : Int32)) (by decide) ?_
            refine v_callVi X (As := [.int (5 : Int32)]) (rest := []) 1 0 (c_X6_refused (l := vl E) (D := vD E) (T := T) (o_p0 := o_p0) (a_p0 := a_p0) (o_S := o_S) (s_p0_sentSize := s_p0_sentSize) (s_p0_latestFinding := s_p0_latestFinding) (s_p0_latestTries := s_p0_latestTries) (s_p0_latestAsked := s_p0_latestAsked) (s_p0_findingTimes := s_p0_findingTimes) (x_1 := (5 : Int32)) h) gX6_line_X6_refused rfl rfl (by decide +kernel) ⟨Nat.zero_le _, Nat.zero_le _⟩ ⟨rfl, rfl, by decide, by decide⟩ (Nat.le_of_ble_eq_true rfl) rfl rfl (wr := [vI T o_P 12 s_P, vO o_W 2 [.ref (a_W 0), .ref (a_W 1), .ref (a_W 2), .int s_W_there, .int s_W_kind, .int s_W_tag, .int s_W_size, .int s_W_lineCount], vJ T (a_W 2) 45 s_W_near, vJ T (a_W 0) 45 s_W_sets, vJ T (a_W 1) 45 s_W_through, vR T 3 (a_p0 1) 4 s_p0_rowPlaces, vI T (a_p0 2) 4 s_p0_rowSizes, vR T 2 (a_p0 0) 6 s_p0_worlds]) [0, 6] [1, 2, 3, 4, 5, 7, 8, 9] rfl rfl rfl rfl (by decide) rfl dX6_line_110 (fun r_110 u h => ?_)
            obtain ⟨u_110_0, u_110_1⟩ := u
            dsimp only at h
            refine v_ws (ws' := (cl_X6_line T o_p0 a_p0 o_S o_P o_W a_W s_p0_sentSize u_110_0 s_p0_latestTries s_p0_latestAsked s_P s_W_there s_W_kind s_W_tag s_W_size s_W_lineCount s_W_near s_W_sets s_W_through u_110_1 s_p0_rowPlaces s_p0_rowSizes s_p0_worlds)) [8, 0, 1, 2, 3, 4, 9, 5, 6, 7] rfl rfl ?_
            exact r _ _ _ (u_110_0, s_W_lineCount, s_W_near, s_W_sets, s_W_through, u_110_1) _ dX6_line_113 h rfl
        · replace h := h.2 c_83
          refine v_aload_n X 0 dX6_line_86 rfl rfl ?_
          refine v_iconst X dX6_line_87 (v := (2 : Int32)) (by decide) ?_
          refine v_callVi X (As := [.int (2 : Int32)]) (rest := []) 1 0 (c_X6_refused (l := vl E) (D := vD E) (T := T) (o_p0 := o_p0) (a_p0 := a_p0) (o_S := o_S) (s_p0_sentSize := s_p0_sentSize) (s_p0_latestFinding := s_p0_latestFinding) (s_p0_latestTries := s_p0_latestTries) (s_p0_latestAsked := s_p0_latestAsked) (s_p0_findingTimes := s_p0_findingTimes) (x_1 := (2 : Int32)) h) gX6_line_X6_refused rfl rfl (by decide +kernel) ⟨Nat.zero_le _, Nat.zero_le _⟩ ⟨rfl, rfl, by decide, by decide⟩ (Nat.le_of_ble_eq_true rfl) rfl rfl (wr := [vI T o_P 12 s_P, vO o_W 2 [.ref (a_W 0), .ref (a_W 1), .ref (a_W 2), .int s_W_there, .int s_W_kind, .int s_W_tag, .int s_W_size, .int s_W_lineCount], vJ T (a_W 2) 45 s_W_near, vJ T (a_W 0) 45 s_W_sets, vJ T (a_W 1) 45 s_W_through, vR T 3 (a_p0 1) 4 s_p0_rowPlaces, vI T (a_p0 2) 4 s_p0_rowSizes, vR T 2 (a_p0 0) 6 s_p0_worlds]) [0, 6] [1, 2, 3, 4, 5, 7, 8, 9] rfl rfl rfl rfl (by decide) rfl dX6_line_88 (fun r_88 u h => ?_)
          obtain ⟨u_88_0, u_88_1⟩ := u
          dsimp only at h
          refine v_ws (ws' := (cl_X6_line T o_p0 a_p0 o_S o_P o_W a_W s_p0_sentSize u_88_0 s_p0_latestTries s_p0_latestAsked s_P s_W_there s_W_kind s_W_tag s_W_size s_W_lineCount s_W_near s_W_sets s_W_through u_88_1 s_p0_rowPlaces s_p0_rowSizes s_p0_worlds)) [8, 0, 1, 2, 3, 4, 9, 5, 6, 7] rfl rfl ?_
          exact r _ _ _ (u_88_0, s_W_lineCount, s_W_near, s_W_sets, s_W_through, u_88_1) _ dX6_line_91 h rfl
      · replace h := h.2 c_68
        refine v_aload_n X 0 dX6_line_71 rfl rfl ?_
        refine v_iconst X dX6_line_72 (v := (3 : Int32)) (by decide) ?_
        refine v_callVi X (As := [.int (3 : Int32)]) (rest := []) 1 0 (c_X6_refused (l := vl E) (D := vD E) (T := T) (o_p0 := o_p0) (a_p0 := a_p0) (o_S := o_S) (s_p0_sentSize := s_p0_sentSize) (s_p0_latestFinding := s_p0_latestFinding) (s_p0_latestTries := s_p0_latestTries) (s_p0_latestAsked := s_p0_latestAsked) (s_p0_findingTimes := s_p0_findingTimes) (x_1 := (3 : Int32)) h) gX6_line_X6_refused rfl rfl (by decide +kernel) ⟨Nat.zero_le _, Nat.zero_le _⟩ ⟨rfl, rfl, by decide, by decide⟩ (Nat.le_of_ble_eq_true rfl) rfl rfl (wr := [vI T o_P 12 s_P, vO o_W 2 [.ref (a_W 0), .ref (a_W 1), .ref (a_W 2), .int s_W_there, .int s_W_kind, .int s_W_tag, .int s_W_size, .int s_W_lineCount], vJ T (a_W 2) 45 s_W_near, vJ T (a_W 0) 45 s_W_sets, vJ T (a_W 1) 45 s_W_through, vR T 3 (a_p0 1) 4 s_p0_rowPlaces, vI T (a_p0 2) 4 s_p0_rowSizes, vR T 2 (a_p0 0) 6 s_p0_worlds]) [0, 6] [1, 2, 3, 4, 5, 7, 8, 9] rfl rfl rfl rfl (by decide) rfl dX6_line_73 (fun r_73 u h => ?_)
        obtain ⟨u_73_0, u_73_1⟩ := u
        dsimp only at h
        refine v_ws (ws' := (cl_X6_line T o_p0 a_p0 o_S o_P o_W a_W s_p0_sentSize u_73_0 s_p0_latestTries s_p0_latestAsked s_P s_W_there s_W_kind s_W_tag s_W_size s_W_lineCount s_W_near s_W_sets s_W_through u_73_1 s_p0_rowPlaces s_p0_rowSizes s_p0_worlds)) [8, 0, 1, 2, 3, 4, 9, 5, 6, 7] rfl rfl ?_
        exact r _ _ _ (u_73_0, s_W_lineCount, s_W_near, s_W_sets, s_W_through, u_73_1) _ dX6_line_76 h rfl
    · replace h := h.2 c_55
      refine v_lv (lv' := [(0, .ref o_p0)]) [0] rfl ?_
      exact k_X6_line_58 X r h
set_option maxHeartbeats 4000000 in
set_option maxRecDepth 100000 in
theorem k_X6_line_14 {E : vE} {T : Nat → ClassId} {o_p0 : Nat} {a_p0 : Nat → Nat} {o_S : Nat} {o_P : Nat} {o_W : Nat} {a_W : Nat → Nat} {s_p0_sentSize : Int32} {s_p0_latestFinding : Int32} {s_p0_latestTries : Int32} {s_p0_latestAsked : Int64} {s_P : Nat → Int32} {s_W_there : Int32} {s_W_kind : Int32} {s_W_tag : Int32} {s_W_size : Int32} {s_W_lineCount : Int32} {s_W_near : Nat → Int64} {s_W_sets : Nat → Int64} {s_W_through : Nat → Int64} {s_p0_findingTimes : Nat → Int32} {s_p0_rowPlaces : Nat → Option Nat} {s_p0_rowSizes : Nat → Int32} {s_p0_worlds : Nat → Option Nat} {Q : Int32 → (Int32) → (Int32) → (Nat → Int64) → (Nat → Int64) → (Nat → Int64) → (Nat → Int32) → Prop} (X : vX E cX6_line 6 RX6 wsX6_line (vT T) (vr 2 45)) (r : r_X6_line E T o_p0 a_p0 o_S o_P o_W a_W s_p0_sentSize s_p0_latestTries s_p0_latestAsked s_P s_W_there s_W_kind s_W_tag s_W_size s_p0_rowPlaces s_p0_rowSizes s_p0_worlds Q) (h : w_X6_line_14 s_p0_latestFinding s_P s_W_there s_W_kind s_W_size s_W_lineCount s_W_near s_W_sets s_W_through s_p0_findingTimes s_p0_rowPlaces s_p0_rowSizes s_p0_worlds o_W o_P Q) : V E 0 0 14 [] [] (cl_X6_line T o_p0 a_p0 o_S o_P o_W a_W s_p0_sentSize s_p0_latestFinding s_p0_latestTries s_p0_latestAsked s_P s_W_there s_W_kind s_W_tag s_W_size s_W_lineCount s_W_near s_W_sets s_W_through s_p0_findingTimes s_p0_rowPlaces s_p0_rowSizes s_p0_worlds) := by
  unfold w_X6_line_14 at h
  refine v_iconst X dX6_line_14 (v := (-1 : Int32)) (by decide) ?_
  exact r _ _ _ (s_p0_latestFinding, s_W_lineCount, s_W_near, s_W_sets, s_W_through, s_p0_findingTimes) _ dX6_line_15 h rfl
set_option maxHeartbeats 4000000 in
set_option maxRecDepth 100000 in
theorem c_X6_line {l : Launch} {D : va_G} {T : Nat → ClassId} {o_p0 : Nat} {a_p0 : Nat → Nat} {o_S : Nat} {o_P : Nat} {o_W : Nat} {a_W : Nat → Nat} {s_p0_sentSize : Int32} {s_p0_latestFinding : Int32} {s_p0_latestTries : Int32} {s_p0_latestAsked : Int64} {s_P : Nat → Int32} {s_W_there : Int32} {s_W_kind : Int32} {s_W_tag : Int32} {s_W_size : Int32} {s_W_lineCount : Int32} {s_W_near : Nat → Int64} {s_W_sets : Nat → Int64} {s_W_through : Nat → Int64} {s_p0_findingTimes : Nat → Int32} {s_p0_rowPlaces : Nat → Option Nat} {s_p0_rowSizes : Nat → Int32} {s_p0_worlds : Nat → Option Nat} {x_1 : Int32} {x_2 : Int32} {Q : Int32 → (Int32) → (Int32) → (Nat → Int64) → (Nat → Int64) → (Nat → Int64) → (Nat → Int32) → Prop} (h : w_X6_line x_1 x_2 s_p0_latestFinding s_P s_W_there s_W_kind s_W_size s_W_lineCount s_W_near s_W_sets s_W_through s_p0_findingTimes s_p0_rowPlaces s_p0_rowSizes s_p0_worlds o_W o_P Q) : vCi l D (vT T) yX6_line wsX6_line (vr 2 45) [.ref o_p0, .int x_1, .int x_2] (cl_X6_line T o_p0 a_p0 o_S o_P o_W a_W s_p0_sentSize s_p0_latestFinding s_p0_latestTries s_p0_latestAsked s_P s_W_there s_W_kind s_W_tag s_W_size s_W_lineCount s_W_near s_W_sets s_W_through s_p0_findingTimes s_p0_rowPlaces s_p0_rowSizes s_p0_worlds) (fun v (u : (Int32) × (Int32) × (Nat → Int64) × (Nat → Int64) × (Nat → Int64) × (Nat → Int32)) => Q v u.1 u.2.1 u.2.2.1 u.2.2.2.1 u.2.2.2.2.1 u.2.2.2.2.2) (fun (u : (Int32) × (Int32) × (Nat → Int64) × (Nat → Int64) × (Nat → Int64) × (Nat → Int32)) => (cl_X6_line T o_p0 a_p0 o_S o_P o_W a_W s_p0_sentSize u.1 s_p0_latestTries s_p0_latestAsked s_P s_W_there s_W_kind s_W_tag s_W_size u.2.1 u.2.2.1 u.2.2.2.1 u.2.2.2.2.1 u.2.2.2.2.2 s_p0_rowPlaces s_p0_rowSizes s_p0_worlds)) := by
  refine vC_i (cc := cX6_line) (nL := 6) (by decide +kernel) rfl ⟨rfl, rfl⟩ (Nat.le_of_ble_eq_true rfl) rfl ?_
  intro E el eD X r
  unfold w_X6_line at h
  refine v_iload_n X 1 dX6_line_0 rfl rfl ?_
  refine v_callSi0 X (As := [.int x_1]) (rest := []) 1 (c_X6_isWorldNumber (l := vl E) (D := vD E) (T := T) (x_0 := x_1) h) gX6_line_X6_isWorldNumber rfl rfl (by decide +kernel) ⟨Nat.zero_le _, Nat.zero_le _⟩ ⟨rfl, rfl, by decide, by decide⟩ (Nat.le_of_ble_eq_true rfl) rfl dX6_line_1 (fun r_1 h => ?_)
  refine v_if_eq X (tgt := 14) dX6_line_4 (by decide) (fun c_4 => ?_) (fun c_4 => ?_)
  · replace h := h.1 c_4
    refine v_lv (lv' := []) [] rfl ?_
    exact k_X6_line_14 X r h
  · replace h := h.2 c_4
    refine v_iload_n X 2 dX6_line_7 rfl rfl ?_
    refine v_callSi0 X (As := [.int x_2]) (rest := []) 1 (c_X6_isRowNumber (l := vl E) (D := vD E) (T := T) (x_0 := x_2) h) gX6_line_X6_isRowNumber rfl rfl (by decide +kernel) ⟨Nat.zero_le _, Nat.zero_le _⟩ ⟨rfl, rfl, by decide, by decide⟩ (Nat.le_of_ble_eq_true rfl) rfl dX6_line_8 (fun r_8 h => ?_)
    refine v_if_ne X (tgt := 16) dX6_line_11 (by decide) (fun c_11 => ?_) (fun c_11 => ?_)
    · replace h := h.1 c_11
      refine v_aload_n X 0 dX6_line_16 rfl rfl ?_
      refine v_get X 0 0 (F := TX6) (N := 13) iX6_line_X6 rfl rfl (by decide) (List.mem_of_getElem? (i := 1) rfl) rfl rfl dX6_line_17 ?_
      refine v_iload_n X 1 dX6_line_20 rfl rfl ?_
      refine v_aald X 9 2 rfl rfl h.1 h.2.1 dX6_line_21 ?_
      replace h := h.2.2
      refine v_astore_n X (lv' := [(3, .ref o_W), (0, .ref o_p0), (1, .int x_1), (2, .int x_2)]) dX6_line_22 rfl (by decide) rfl ?_
      refine v_aload_n X 0 dX6_line_23 rfl rfl ?_
      refine v_getN X 2 3 (F := TX5) (N := 8) iX6_line_X5 rfl rfl (by decide) (List.mem_of_getElem? (i := 23) rfl) rfl rfl dX6_line_24 ?_
      refine v_if_eq X (tgt := 42) dX6_line_27 (by decide) (fun c_27 => ?_) (fun c_27 => ?_)
      · replace h := h.1 c_27
        refine v_lv (lv' := [(0, .ref o_p0), (2, .int x_2), (3, .ref o_W)]) [1, 3, 0] rfl ?_
        exact k_X6_line_42 X r h
      · replace h := h.2 c_27
        refine v_aload_n X 0 dX6_line_30 rfl rfl ?_
        refine v_getN X 2 7 (F := TX5) (N := 8) iX6_line_X5 rfl rfl (by decide) (List.mem_of_getElem? (i := 33) rfl) rfl rfl dX6_line_31 ?_
        refine v_bipush X dX6_line_34 (v := (45 : Int32)) (by decide) ?_
        refine v_icmp_lt X (tgt := 42) dX6_line_36 (by decide) (fun c_36 => ?_) (fun c_36 => ?_)
        · replace h := h.1 c_36
          refine v_lv (lv' := [(0, .ref o_p0), (2, .int x_2), (3, .ref o_W)]) [1, 3, 0] rfl ?_
          exact k_X6_line_42 X r h
        · replace h := h.2 c_36
          refine v_bipush X dX6_line_39 (v := (-2 : Int32)) (by decide) ?_
          exact r _ _ _ (s_p0_latestFinding, s_W_lineCount, s_W_near, s_W_sets, s_W_through, s_p0_findingTimes) _ dX6_line_41 h rfl
    · replace h := h.2 c_11
      refine v_lv (lv' := []) [] rfl ?_
      exact k_X6_line_14 X r h
-- X6_grid
abbrev cl_X6_grid (T : Nat → ClassId) (o_p0 : Nat) (a_p0 : Nat → Nat) (o_S : Nat) (o_W : Nat) (a_W : Nat → Nat) (s_p0_sentSize : Int32) (s_p0_latestFinding : Int32) (s_p0_latestTries : Int32) (s_p0_latestAsked : Int64) (s_W_there : Int32) (s_W_kind : Int32) (s_W_tag : Int32) (s_W_size : Int32) (s_W_lineCount : Int32) (s_W_near : Nat → Int64) (s_W_sets : Nat → Int64) (s_W_through : Nat → Int64) (s_p0_worlds : Nat → Option Nat) : va_W := [vO o_p0 3 [.ref (a_p0 0), .ref (a_p0 1), .ref (a_p0 2), .ref (a_p0 3), .ref (a_p0 4), .ref (a_p0 5), .ref (a_p0 6), .ref (a_p0 7), .ref o_S, .int s_p0_sentSize, .int s_p0_latestFinding, .int s_p0_latestTries, .long s_p0_latestAsked], vO o_W 2 [.ref (a_W 0), .ref (a_W 1), .ref (a_W 2), .int s_W_there, .int s_W_kind, .int s_W_tag, .int s_W_size, .int s_W_lineCount], vJ T (a_W 2) 45 s_W_near, vJ T (a_W 0) 45 s_W_sets, vJ T (a_W 1) 45 s_W_through, vR T 2 (a_p0 0) 6 s_p0_worlds]
abbrev r_X6_grid (E : vE) (T : Nat → ClassId) (o_p0 : Nat) (a_p0 : Nat → Nat) (o_S : Nat) (o_W : Nat) (a_W : Nat → Nat) (s_p0_sentSize : Int32) (s_p0_latestFinding : Int32) (s_p0_latestTries : Int32) (s_p0_latestAsked : Int64) (s_p0_worlds : Nat → Option Nat) (Q : Int32 → (Int32) → (Int32) → (Int32) → (Int32) → (Int32) → (Nat → Int64) → (Nat → Int64) → (Nat → Int64) → Prop) : Prop := vRi E cX6_grid (fun v (u : (Int32) × (Int32) × (Int32) × (Int32) × (Int32) × (Nat → Int64) × (Nat → Int64) × (Nat → Int64)) => Q v u.1 u.2.1 u.2.2.1 u.2.2.2.1 u.2.2.2.2.1 u.2.2.2.2.2.1 u.2.2.2.2.2.2.1 u.2.2.2.2.2.2.2) (fun (u : (Int32) × (Int32) × (Int32) × (Int32) × (Int32) × (Nat → Int64) × (Nat → Int64) × (Nat → Int64)) => (cl_X6_grid T o_p0 a_p0 o_S o_W a_W s_p0_sentSize s_p0_latestFinding s_p0_latestTries s_p0_latestAsked u.1 u.2.1 u.2.2.1 u.2.2.2.1 u.2.2.2.2.1 u.2.2.2.2.2.1 u.2.2.2.2.2.2.1 u.2.2.2.2.2.2.2 s_p0_worlds))
def w_X6_grid_29 (s_W_there : Int32) (s_W_kind : Int32) (s_W_tag : Int32) (s_W_size : Int32) (s_W_lineCount : Int32) (s_W_near : Nat → Int64) (s_W_sets : Nat → Int64) (s_W_through : Nat → Int64) (s_p0_worlds : Nat → Option Nat) (o_W : Nat) (Q : Int32 → (Int32) → (Int32) → (Int32) → (Int32) → (Int32) → (Nat → Int64) → (Nat → Int64) → (Nat → Int64) → Prop) : Prop := (Q (-1 : Int32) s_W_there s_W_kind s_W_tag s_W_size s_W_lineCount s_W_near s_W_sets s_W_through)
def w_X6_grid (x_1 : Int32) (x_2 : Int32) (x_3 : Int32) (s_W_there : Int32) (s_W_kind : Int32) (s_W_tag : Int32) (s_W_size : Int32) (s_W_lineCount : Int32) (s_W_near : Nat → Int64) (s_W_sets : Nat → Int64) (s_W_through : Nat → Int64) (s_p0_worlds : Nat → Option Nat) (o_W : Nat) (Q : Int32 → (Int32) → (Int32) → (Int32) → (Int32) → (Int32) → (Nat → Int64) → (Nat → Int64) → (Nat → Int64) → Prop) : Prop := (w_X6_isWorldNumber x_1 (fun (r_1 : Int32) => ((r_1 = 0 → (w_X6_grid_29 s_W_there s_W_kind s_W_tag s_W_size s_W_lineCount s_W_near s_W_sets s_W_through s_p0_worlds o_W Q)) ∧ (¬ r_1 = 0 → ((x_2 < (2 : Int32) → (w_X6_grid_29 s_W_there s_W_kind s_W_tag s_W_size s_W_lineCount s_W_near s_W_sets s_W_through s_p0_worlds o_W Q)) ∧ (¬ x_2 < (2 : Int32) → (((6 : Int32) < x_2 → (w_X6_grid_29 s_W_there s_W_kind s_W_tag s_W_size s_W_lineCount s_W_near s_W_sets s_W_through s_p0_worlds o_W Q)) ∧ (¬ (6 : Int32) < x_2 → ((x_3 < (2 : Int32) → (w_X6_grid_29 s_W_there s_W_kind s_W_tag s_W_size s_W_lineCount s_W_near s_W_sets s_W_through s_p0_worlds o_W Q)) ∧ (¬ x_3 < (2 : Int32) → ((x_3 ≤ (6 : Int32) → (vp_in x_1 6 ∧ s_p0_worlds (x_1).toNatClampNeg = some o_W ∧ (w_X1_makeGrid x_2 x_3 s_W_there s_W_kind s_W_tag s_W_size s_W_lineCount s_W_near s_W_sets s_W_through (fun (u_39_0 : Int32) (u_39_1 : Int32) (u_39_2 : Int32) (u_39_3 : Int32) (u_39_4 : Int32) (u_39_5 : Nat → Int64) (u_39_6 : Nat → Int64) (u_39_7 : Nat → Int64) => (vp_in x_1 6 ∧ s_p0_worlds (x_1).toNatClampNeg = some o_W ∧ (Q u_39_3 u_39_0 u_39_1 u_39_2 u_39_3 u_39_4 u_39_5 u_39_6 u_39_7)))))) ∧ (¬ x_3 ≤ (6 : Int32) → (w_X6_grid_29 s_W_there s_W_kind s_W_tag s_W_size s_W_lineCount s_W_near s_W_sets s_W_through s_p0_worlds o_W Q)))))))))))))
-- X6_grid
theorem iX6_grid_X5 : ∀ w ∈ wsX50, w ∈ wsX6_grid := by decide +kernel
theorem iX6_grid_X6 : ∀ w ∈ wsX60, w ∈ wsX6_grid := by decide +kernel
set_option maxHeartbeats 4000000 in
set_option maxRecDepth 100000 in
theorem k_X6_grid_29 {E : vE} {T : Nat → ClassId} {o_p0 : Nat} {a_p0 : Nat → Nat} {o_S : Nat} {o_W : Nat} {a_W : Nat → Nat} {s_p0_sentSize : Int32} {s_p0_latestFinding : Int32} {s_p0_latestTries : Int32} {s_p0_latestAsked : Int64} {s_W_there : Int32} {s_W_kind : Int32} {s_W_tag : Int32} {s_W_size : Int32} {s_W_lineCount : Int32} {s_W_near : Nat → Int64} {s_W_sets : Nat → Int64} {s_W_through : Nat → Int64} {s_p0_worlds : Nat → Option Nat} {Q : Int32 → (Int32) → (Int32) → (Int32) → (Int32) → (Int32) → (Nat → Int64) → (Nat → Int64) → (Nat → Int64) → Prop} (X : vX E cX6_grid 4 RX6 wsX6_grid (vT T) (vr 3 71)) (r : r_X6_grid E T o_p0 a_p0 o_S o_W a_W s_p0_sentSize s_p0_latestFinding s_p0_latestTries s_p0_latestAsked s_p0_worlds Q) (h : w_X6_grid_29 s_W_there s_W_kind s_W_tag s_W_size s_W_lineCount s_W_near s_W_sets s_W_through s_p0_worlds o_W Q) : V E 0 0 29 [] [] (cl_X6_grid T o_p0 a_p0 o_S o_W a_W s_p0_sentSize s_p0_latestFinding s_p0_latestTries s_p0_latestAsked s_W_there s_W_kind s_W_tag s_W_size s_W_lineCount s_W_near s_W_sets s_W_through s_p0_worlds) := by
  unfold w_X6_grid_29 at h
  refine v_iconst X dX6_grid_29 (v := (-1 : Int32)) (by decide) ?_
  exact r _ _ _ (s_W_there, s_W_kind, s_W_tag, s_W_size, s_W_lineCount, s_W_near, s_W_sets, s_W_through) _ dX6_grid_30 h rfl
set_option maxHeartbeats 4000000 in
set_option maxRecDepth 100000 in
theorem c_X6_grid {l : Launch} {D : va_G} {T : Nat → ClassId} {o_p0 : Nat} {a_p0 : Nat → Nat} {o_S : Nat} {o_W : Nat} {a_W : Nat → Nat} {s_p0_sentSize : Int32} {s_p0_latestFinding : Int32} {s_p0_latestTries : Int32} {s_p0_latestAsked : Int64} {s_W_there : Int32} {s_W_kind : Int32} {s_W_tag : Int32} {s_W_size : Int32} {s_W_lineCount : Int32} {s_W_near : Nat → Int64} {s_W_sets : Nat → Int64} {s_W_through : Nat → Int64} {s_p0_worlds : Nat → Option Nat} {x_1 : Int32} {x_2 : Int32} {x_3 : Int32} {Q : Int32 → (Int32) → (Int32) → (Int32) → (Int32) → (Int32) → (Nat → Int64) → (Nat → Int64) → (Nat → Int64) → Prop} (h : w_X6_grid x_1 x_2 x_3 s_W_there s_W_kind s_W_tag s_W_size s_W_lineCount s_W_near s_W_sets s_W_through s_p0_worlds o_W Q) : vCi l D (vT T) yX6_grid wsX6_grid (vr 3 71) [.ref o_p0, .int x_1, .int x_2, .int x_3] (cl_X6_grid T o_p0 a_p0 o_S o_W a_W s_p0_sentSize s_p0_latestFinding s_p0_latestTries s_p0_latestAsked s_W_there s_W_kind s_W_tag s_W_size s_W_lineCount s_W_near s_W_sets s_W_through s_p0_worlds) (fun v (u : (Int32) × (Int32) × (Int32) × (Int32) × (Int32) × (Nat → Int64) × (Nat → Int64) × (Nat → Int64)) => Q v u.1 u.2.1 u.2.2.1 u.2.2.2.1 u.2.2.2.2.1 u.2.2.2.2.2.1 u.2.2.2.2.2.2.1 u.2.2.2.2.2.2.2) (fun (u : (Int32) × (Int32) × (Int32) × (Int32) × (Int32) × (Nat → Int64) × (Nat → Int64) × (Nat → Int64)) => (cl_X6_grid T o_p0 a_p0 o_S o_W a_W s_p0_sentSize s_p0_latestFinding s_p0_latestTries s_p0_latestAsked u.1 u.2.1 u.2.2.1 u.2.2.2.1 u.2.2.2.2.1 u.2.2.2.2.2.1 u.2.2.2.2.2.2.1 u.2.2.2.2.2.2.2 s_p0_worlds)) := by
  refine vC_i (cc := cX6_grid) (nL := 4) (by decide +kernel) rfl ⟨rfl, rfl⟩ (Nat.le_of_ble_eq_true rfl) rfl ?_
  intro E el eD X r
  unfold w_X6_grid at h
  refine v_iload_n X 1 dX6_grid_0 rfl rfl ?_
  refine v_callSi0 X (As := [.int x_1]) (rest := []) 1 (c_X6_isWorldNumber (l := vl E) (D := vD E) (T := T) (x_0 := x_1) h) gX6_grid_X6_isWorldNumber rfl rfl (by decide +kernel) ⟨Nat.zero_le _, Nat.zero_le _⟩ ⟨rfl, rfl, by decide, by decide⟩ (Nat.le_of_ble_eq_true rfl) rfl dX6_grid_1 (fun r_1 h => ?_)
  refine v_if_eq X (tgt := 29) dX6_grid_4 (by decide) (fun c_4 => ?_) (fun c_4 => ?_)
  · replace h := h.1 c_4
    refine v_lv (lv' := []) [] rfl ?_
    exact k_X6_grid_29 X r h
  · replace h := h.2 c_4
    refine v_iload_n X 2 dX6_grid_7 rfl rfl ?_
    refine v_iconst X dX6_grid_8 (v := (2 : Int32)) (by decide) ?_
    refine v_icmp_lt X (tgt := 29) dX6_grid_9 (by decide) (fun c_9 => ?_) (fun c_9 => ?_)
    · replace h := h.1 c_9
      refine v_lv (lv' := []) [] rfl ?_
      exact k_X6_grid_29 X r h
    · replace h := h.2 c_9
      refine v_iload_n X 2 dX6_grid_12 rfl rfl ?_
      refine v_bipush X dX6_grid_13 (v := (6 : Int32)) (by decide) ?_
      refine v_icmp_gt X (tgt := 29) dX6_grid_15 (by decide) (fun c_15 => ?_) (fun c_15 => ?_)
      · replace h := h.1 c_15
        refine v_lv (lv' := []) [] rfl ?_
        exact k_X6_grid_29 X r h
      · replace h := h.2 c_15
        refine v_iload_n X 3 dX6_grid_18 rfl rfl ?_
        refine v_iconst X dX6_grid_19 (v := (2 : Int32)) (by decide) ?_
        refine v_icmp_lt X (tgt := 29) dX6_grid_20 (by decide) (fun c_20 => ?_) (fun c_20 => ?_)
        · replace h := h.1 c_20
          refine v_lv (lv' := []) [] rfl ?_
          exact k_X6_grid_29 X r h
        · replace h := h.2 c_20
          refine v_iload_n X 3 dX6_grid_23 rfl rfl ?_
          refine v_bipush X dX6_grid_24 (v := (6 : Int32)) (by decide) ?_
          refine v_icmp_le X (tgt := 31) dX6_grid_26 (by decide) (fun c_26 => ?_) (fun c_26 => ?_)
          · replace h := h.1 c_26
            refine v_aload_n X 0 dX6_grid_31 rfl rfl ?_
            refine v_get X 0 0 (F := TX6) (N := 13) iX6_grid_X6 rfl rfl (by decide) (List.mem_of_getElem? (i := 1) rfl) rfl rfl dX6_grid_32 ?_
            refine v_iload_n X 1 dX6_grid_35 rfl rfl ?_
            refine v_aald X 5 2 rfl rfl h.1 h.2.1 dX6_grid_36 ?_
            replace h := h.2.2
            refine v_iload_n X 2 dX6_grid_37 rfl rfl ?_
            refine v_iload_n X 3 dX6_grid_38 rfl rfl ?_
            refine v_callSv X (As := [.ref o_W, .int x_2, .int x_3]) (rest := []) 3 (c_X1_makeGrid (l := vl E) (D := vD E) (T := T) (o_p0 := o_W) (a_p0 := a_W) (s_p0_there := s_W_there) (s_p0_kind := s_W_kind) (s_p0_tag := s_W_tag) (s_p0_size := s_W_size) (s_p0_lineCount := s_W_lineCount) (s_p0_near := s_W_near) (s_p0_sets := s_W_sets) (s_p0_through := s_W_through) (x_1 := x_2) (x_2 := x_3) h) gX6_grid_X1_makeGrid rfl rfl (by decide +kernel) ⟨Nat.zero_le _, Nat.zero_le _⟩ ⟨rfl, rfl, by decide, by decide⟩ (Nat.le_of_ble_eq_true rfl) (wr := [vO o_p0 3 [.ref (a_p0 0), .ref (a_p0 1), .ref (a_p0 2), .ref (a_p0 3), .ref (a_p0 4), .ref (a_p0 5), .ref (a_p0 6), .ref (a_p0 7), .ref o_S, .int s_p0_sentSize, .int s_p0_latestFinding, .int s_p0_latestTries, .long s_p0_latestAsked], vR T 2 (a_p0 0) 6 s_p0_worlds]) [1, 2, 3, 4] [0, 5] rfl rfl rfl rfl (by decide) rfl dX6_grid_39 (fun u h => ?_)
            obtain ⟨u_39_0, u_39_1, u_39_2, u_39_3, u_39_4, u_39_5, u_39_6, u_39_7⟩ := u
            dsimp only at h
            refine v_ws (ws' := (cl_X6_grid T o_p0 a_p0 o_S o_W a_W s_p0_sentSize s_p0_latestFinding s_p0_latestTries s_p0_latestAsked u_39_0 u_39_1 u_39_2 u_39_3 u_39_4 u_39_5 u_39_6 u_39_7 s_p0_worlds)) [0, 2, 3, 4, 5, 1] rfl rfl ?_
            refine v_aload_n X 0 dX6_grid_42 rfl rfl ?_
            refine v_get X 0 0 (F := TX6) (N := 13) iX6_grid_X6 rfl rfl (by decide) (List.mem_of_getElem? (i := 1) rfl) rfl rfl dX6_grid_43 ?_
            refine v_iload_n X 1 dX6_grid_46 rfl rfl ?_
            refine v_aald X 5 2 rfl rfl h.1 h.2.1 dX6_grid_47 ?_
            replace h := h.2.2
            refine v_getN X 1 6 (F := TX5) (N := 8) iX6_grid_X5 rfl rfl (by decide) (List.mem_of_getElem? (i := 29) rfl) rfl rfl dX6_grid_48 ?_
            exact r _ _ _ (u_39_0, u_39_1, u_39_2, u_39_3, u_39_4, u_39_5, u_39_6, u_39_7) _ dX6_grid_51 h rfl
          · replace h := h.2 c_26
            refine v_lv (lv' := []) [] rfl ?_
            exact k_X6_grid_29 X r h
-- X6_form
abbrev cl_X6_form (T : Nat → ClassId) (o_p0 : Nat) (a_p0 : Nat → Nat) (o_S : Nat) (o_W : Nat) (a_W : Nat → Nat) (s_p0_sentSize : Int32) (s_p0_latestFinding : Int32) (s_p0_latestTries : Int32) (s_p0_latestAsked : Int64) (s_W_there : Int32) (s_W_kind : Int32) (s_W_tag : Int32) (s_W_size : Int32) (s_W_lineCount : Int32) (s_W_near : Nat → Int64) (s_W_sets : Nat → Int64) (s_W_through : Nat → Int64) (s_p0_worlds : Nat → Option Nat) : va_W := [vO o_p0 3 [.ref (a_p0 0), .ref (a_p0 1), .ref (a_p0 2), .ref (a_p0 3), .ref (a_p0 4), .ref (a_p0 5), .ref (a_p0 6), .ref (a_p0 7), .ref o_S, .int s_p0_sentSize, .int s_p0_latestFinding, .int s_p0_latestTries, .long s_p0_latestAsked], vO o_W 2 [.ref (a_W 0), .ref (a_W 1), .ref (a_W 2), .int s_W_there, .int s_W_kind, .int s_W_tag, .int s_W_size, .int s_W_lineCount], vJ T (a_W 2) 45 s_W_near, vJ T (a_W 0) 45 s_W_sets, vJ T (a_W 1) 45 s_W_through, vR T 2 (a_p0 0) 6 s_p0_worlds]
abbrev r_X6_form (E : vE) (T : Nat → ClassId) (o_p0 : Nat) (a_p0 : Nat → Nat) (o_S : Nat) (o_W : Nat) (a_W : Nat → Nat) (s_p0_sentSize : Int32) (s_p0_latestFinding : Int32) (s_p0_latestTries : Int32) (s_p0_latestAsked : Int64) (s_p0_worlds : Nat → Option Nat) (Q : Int32 → (Int32) → (Int32) → (Int32) → (Int32) → (Int32) → (Nat → Int64) → (Nat → Int64) → (Nat → Int64) → Prop) : Prop := vRi E cX6_form (fun v (u : (Int32) × (Int32) × (Int32) × (Int32) × (Int32) × (Nat → Int64) × (Nat → Int64) × (Nat → Int64)) => Q v u.1 u.2.1 u.2.2.1 u.2.2.2.1 u.2.2.2.2.1 u.2.2.2.2.2.1 u.2.2.2.2.2.2.1 u.2.2.2.2.2.2.2) (fun (u : (Int32) × (Int32) × (Int32) × (Int32) × (Int32) × (Nat → Int64) × (Nat → Int64) × (Nat → Int64)) => (cl_X6_form T o_p0 a_p0 o_S o_W a_W s_p0_sentSize s_p0_latestFinding s_p0_latestTries s_p0_latestAsked u.1 u.2.1 u.2.2.1 u.2.2.2.1 u.2.2.2.2.1 u.2.2.2.2.2.1 u.2.2.2.2.2.2.1 u.2.2.2.2.2.2.2 s_p0_worlds))
def w_X6_form_17 (s_W_there : Int32) (s_W_kind : Int32) (s_W_tag : Int32) (s_W_size : Int32) (s_W_lineCount : Int32) (s_W_near : Nat → Int64) (s_W_sets : Nat → Int64) (s_W_through : Nat → Int64) (s_p0_worlds : Nat → Option Nat) (o_W : Nat) (Q : Int32 → (Int32) → (Int32) → (Int32) → (Int32) → (Int32) → (Nat → Int64) → (Nat → Int64) → (Nat → Int64) → Prop) : Prop := (Q (-1 : Int32) s_W_there s_W_kind s_W_tag s_W_size s_W_lineCount s_W_near s_W_sets s_W_through)
def w_X6_form (x_1 : Int32) (x_2 : Int32) (s_W_there : Int32) (s_W_kind : Int32) (s_W_tag : Int32) (s_W_size : Int32) (s_W_lineCount : Int32) (s_W_near : Nat → Int64) (s_W_sets : Nat → Int64) (s_W_through : Nat → Int64) (s_p0_worlds : Nat → Option Nat) (o_W : Nat) (Q : Int32 → (Int32) → (Int32) → (Int32) → (Int32) → (Int32) → (Nat → Int64) → (Nat → Int64) → (Nat → Int64) → Prop) : Prop := (w_X6_isWorldNumber x_1 (fun (r_1 : Int32) => ((r_1 = 0 → (w_X6_form_17 s_W_there s_W_kind s_W_tag s_W_size s_W_lineCount s_W_near s_W_sets s_W_through s_p0_worlds o_W Q)) ∧ (¬ r_1 = 0 → ((x_2 < (2 : Int32) → (w_X6_form_17 s_W_there s_W_kind s_W_tag s_W_size s_W_lineCount s_W_near s_W_sets s_W_through s_p0_worlds o_W Q)) ∧ (¬ x_2 < (2 : Int32) → ((x_2 ≤ (3 : Int32) → (vp_in x_1 6 ∧ s_p0_worlds (x_1).toNatClampNeg = some o_W ∧ (w_X1_makeForm x_2 s_W_there s_W_kind s_W_tag s_W_size s_W_lineCount s_W_near s_W_sets s_W_through (fun (u_26_0 : Int32) (u_26_1 : Int32) (u_26_2 : Int32) (u_26_3 : Int32) (u_26_4 : Int32) (u_26_5 : Nat → Int64) (u_26_6 : Nat → Int64) (u_26_7 : Nat → Int64) => (vp_in x_1 6 ∧ s_p0_worlds (x_1).toNatClampNeg = some o_W ∧ (Q u_26_3 u_26_0 u_26_1 u_26_2 u_26_3 u_26_4 u_26_5 u_26_6 u_26_7)))))) ∧ (¬ x_2 ≤ (3 : Int32) → (w_X6_form_17 s_W_there s_W_kind s_W_tag s_W_size s_W_lineCount s_W_near s_W_sets s_W_through s_p0_worlds o_W Q)))))))))
-- X6_form
theorem iX6_form_X5 : ∀ w ∈ wsX50, w ∈ wsX6_form := by decide +kernel
theorem iX6_form_X6 : ∀ w ∈ wsX60, w ∈ wsX6_form := by decide +kernel
set_option maxHeartbeats 4000000 in
set_option maxRecDepth 100000 in
theorem k_X6_form_17 {E : vE} {T : Nat → ClassId} {o_p0 : Nat} {a_p0 : Nat → Nat} {o_S : Nat} {o_W : Nat} {a_W : Nat → Nat} {s_p0_sentSize : Int32} {s_p0_latestFinding : Int32} {s_p0_latestTries : Int32} {s_p0_latestAsked : Int64} {s_W_there : Int32} {s_W_kind : Int32} {s_W_tag : Int32} {s_W_size : Int32} {s_W_lineCount : Int32} {s_W_near : Nat → Int64} {s_W_sets : Nat → Int64} {s_W_through : Nat → Int64} {s_p0_worlds : Nat → Option Nat} {Q : Int32 → (Int32) → (Int32) → (Int32) → (Int32) → (Int32) → (Nat → Int64) → (Nat → Int64) → (Nat → Int64) → Prop} (X : vX E cX6_form 3 RX6 wsX6_form (vT T) (vr 3 83)) (r : r_X6_form E T o_p0 a_p0 o_S o_W a_W s_p0_sentSize s_p0_latestFinding s_p0_latestTries s_p0_latestAsked s_p0_worlds Q) (h : w_X6_form_17 s_W_there s_W_kind s_W_tag s_W_size s_W_lineCount s_W_near s_W_sets s_W_through s_p0_worlds o_W Q) : V E 0 0 17 [] [] (cl_X6_form T o_p0 a_p0 o_S o_W a_W s_p0_sentSize s_p0_latestFinding s_p0_latestTries s_p0_latestAsked s_W_there s_W_kind s_W_tag s_W_size s_W_lineCount s_W_near s_W_sets s_W_through s_p0_worlds) := by
  unfold w_X6_form_17 at h
  refine v_iconst X dX6_form_17 (v := (-1 : Int32)) (by decide) ?_
  exact r _ _ _ (s_W_there, s_W_kind, s_W_tag, s_W_size, s_W_lineCount, s_W_near, s_W_sets, s_W_through) _ dX6_form_18 h rfl
set_option maxHeartbeats 4000000 in
set_option maxRecDepth 100000 in
theorem c_X6_form {l : Launch} {D : va_G} {T : Nat → ClassId} {o_p0 : Nat} {a_p0 : Nat → Nat} {o_S : Nat} {o_W : Nat} {a_W : Nat → Nat} {s_p0_sentSize : Int32} {s_p0_latestFinding : Int32} {s_p0_latestTries : Int32} {s_p0_latestAsked : Int64} {s_W_there : Int32} {s_W_kind : Int32} {s_W_tag : Int32} {s_W_size : Int32} {s_W_lineCount : Int32} {s_W_near : Nat → Int64} {s_W_sets : Nat → Int64} {s_W_through : Nat → Int64} {s_p0_worlds : Nat → Option Nat} {x_1 : Int32} {x_2 : Int32} {Q : Int32 → (Int32) → (Int32) → (Int32) → (Int32) → (Int32) → (Nat → Int64) → (Nat → Int64) → (Nat → Int64) → Prop} (h : w_X6_form x_1 x_2 s_W_there s_W_kind s_W_tag s_W_size s_W_lineCount s_W_near s_W_sets s_W_through s_p0_worlds o_W Q) : vCi l D (vT T) yX6_form wsX6_form (vr 3 83) [.ref o_p0, .int x_1, .int x_2] (cl_X6_form T o_p0 a_p0 o_S o_W a_W s_p0_sentSize s_p0_latestFinding s_p0_latestTries s_p0_latestAsked s_W_there s_W_kind s_W_tag s_W_size s_W_lineCount s_W_near s_W_sets s_W_through s_p0_worlds) (fun v (u : (Int32) × (Int32) × (Int32) × (Int32) × (Int32) × (Nat → Int64) × (Nat → Int64) × (Nat → Int64)) => Q v u.1 u.2.1 u.2.2.1 u.2.2.2.1 u.2.2.2.2.1 u.2.2.2.2.2.1 u.2.2.2.2.2.2.1 u.2.2.2.2.2.2.2) (fun (u : (Int32) × (Int32) × (Int32) × (Int32) × (Int32) × (Nat → Int64) × (Nat → Int64) × (Nat → Int64)) => (cl_X6_form T o_p0 a_p0 o_S o_W a_W s_p0_sentSize s_p0_latestFinding s_p0_latestTries s_p0_latestAsked u.1 u.2.1 u.2.2.1 u.2.2.2.1 u.2.2.2.2.1 u.2.2.2.2.2.1 u.2.2.2.2.2.2.1 u.2.2.2.2.2.2.2 s_p0_worlds)) := by
  refine vC_i (cc := cX6_form) (nL := 3) (by decide +kernel) rfl ⟨rfl, rfl⟩ (Nat.le_of_ble_eq_true rfl) rfl ?_
  intro E el eD X r
  unfold w_X6_form at h
  refine v_iload_n X 1 dX6_form_0 rfl rfl ?_
  refine v_callSi0 X (As := [.int x_1]) (rest := []) 1 (c_X6_isWorldNumber (l := vl E) (D := vD E) (T := T) (x_0 := x_1) h) gX6_form_X6_isWorldNumber rfl rfl (by decide +kernel) ⟨Nat.zero_le _, Nat.zero_le _⟩ ⟨rfl, rfl, by decide, by decide⟩ (Nat.le_of_ble_eq_true rfl) rfl dX6_form_1 (fun r_1 h => ?_)
  refine v_if_eq X (tgt := 17) dX6_form_4 (by decide) (fun c_4 => ?_) (fun c_4 => ?_)
  · replace h := h.1 c_4
    refine v_lv (lv' := []) [] rfl ?_
    exact k_X6_form_17 X r h
  · replace h := h.2 c_4
    refine v_iload_n X 2 dX6_form_7 rfl rfl ?_
    refine v_iconst X dX6_form_8 (v := (2 : Int32)) (by decide) ?_
    refine v_icmp_lt X (tgt := 17) dX6_form_9 (by decide) (fun c_9 => ?_) (fun c_9 => ?_)
    · replace h := h.1 c_9
      refine v_lv (lv' := []) [] rfl ?_
      exact k_X6_form_17 X r h
    · replace h := h.2 c_9
      refine v_iload_n X 2 dX6_form_12 rfl rfl ?_
      refine v_iconst X dX6_form_13 (v := (3 : Int32)) (by decide) ?_
      refine v_icmp_le X (tgt := 19) dX6_form_14 (by decide) (fun c_14 => ?_) (fun c_14 => ?_)
      · replace h := h.1 c_14
        refine v_aload_n X 0 dX6_form_19 rfl rfl ?_
        refine v_get X 0 0 (F := TX6) (N := 13) iX6_form_X6 rfl rfl (by decide) (List.mem_of_getElem? (i := 1) rfl) rfl rfl dX6_form_20 ?_
        refine v_iload_n X 1 dX6_form_23 rfl rfl ?_
        refine v_aald X 5 2 rfl rfl h.1 h.2.1 dX6_form_24 ?_
        replace h := h.2.2
        refine v_iload_n X 2 dX6_form_25 rfl rfl ?_
        refine v_callSv X (As := [.ref o_W, .int x_2]) (rest := []) 2 (c_X1_makeForm (l := vl E) (D := vD E) (T := T) (o_p0 := o_W) (a_p0 := a_W) (s_p0_there := s_W_there) (s_p0_kind := s_W_kind) (s_p0_tag := s_W_tag) (s_p0_size := s_W_size) (s_p0_lineCount := s_W_lineCount) (s_p0_near := s_W_near) (s_p0_sets := s_W_sets) (s_p0_through := s_W_through) (x_1 := x_2) h) gX6_form_X1_makeForm rfl rfl (by decide +kernel) ⟨Nat.zero_le _, Nat.zero_le _⟩ ⟨rfl, rfl, by decide, by decide⟩ (Nat.le_of_ble_eq_true rfl) (wr := [vO o_p0 3 [.ref (a_p0 0), .ref (a_p0 1), .ref (a_p0 2), .ref (a_p0 3), .ref (a_p0 4), .ref (a_p0 5), .ref (a_p0 6), .ref (a_p0 7), .ref o_S, .int s_p0_sentSize, .int s_p0_latestFinding, .int s_p0_latestTries, .long s_p0_latestAsked], vR T 2 (a_p0 0) 6 s_p0_worlds]) [1, 2, 3, 4] [0, 5] rfl rfl rfl rfl (by decide) rfl dX6_form_26 (fun u h => ?_)
        obtain ⟨u_26_0, u_26_1, u_26_2, u_26_3, u_26_4, u_26_5, u_26_6, u_26_7⟩ := u
        dsimp only at h
        refine v_ws (ws' := (cl_X6_form T o_p0 a_p0 o_S o_W a_W s_p0_sentSize s_p0_latestFinding s_p0_latestTries s_p0_latestAsked u_26_0 u_26_1 u_26_2 u_26_3 u_26_4 u_26_5 u_26_6 u_26_7 s_p0_worlds)) [0, 2, 3, 4, 5, 1] rfl rfl ?_
        refine v_aload_n X 0 dX6_form_29 rfl rfl ?_
        refine v_get X 0 0 (F := TX6) (N := 13) iX6_form_X6 rfl rfl (by decide) (List.mem_of_getElem? (i := 1) rfl) rfl rfl dX6_form_30 ?_
        refine v_iload_n X 1 dX6_form_33 rfl rfl ?_
        refine v_aald X 5 2 rfl rfl h.1 h.2.1 dX6_form_34 ?_
        replace h := h.2.2
        refine v_getN X 1 6 (F := TX5) (N := 8) iX6_form_X5 rfl rfl (by decide) (List.mem_of_getElem? (i := 29) rfl) rfl rfl dX6_form_35 ?_
        exact r _ _ _ (u_26_0, u_26_1, u_26_2, u_26_3, u_26_4, u_26_5, u_26_6, u_26_7) _ dX6_form_38 h rfl
      · replace h := h.2 c_14
        refine v_lv (lv' := []) [] rfl ?_
        exact k_X6_form_17 X r h
-- X6_putSpare
abbrev cl_X6_putSpare (T : Nat → ClassId) (o_p0 : Nat) (a_p0 : Nat → Nat) (o_S : Nat) (a_S : Nat → Nat) (o_B : Nat) (s_p0_sentSize : Int32) (s_p0_latestFinding : Int32) (s_p0_latestTries : Int32) (s_p0_latestAsked : Int64) (s_S_there : Int32) (s_S_kind : Int32) (s_S_tag : Int32) (s_S_size : Int32) (s_S_lineCount : Int32) (s_p0_worlds : Nat → Option Nat) (s_p0_spare : Nat) : va_W := [vO o_p0 3 [.ref (a_p0 0), .ref (a_p0 1), .ref (a_p0 2), .ref (a_p0 3), .ref (a_p0 4), .ref (a_p0 5), .ref (a_p0 6), .ref (a_p0 7), .ref s_p0_spare, .int s_p0_sentSize, .int s_p0_latestFinding, .int s_p0_latestTries, .long s_p0_latestAsked], vO o_S 2 [.ref (a_S 0), .ref (a_S 1), .ref (a_S 2), .int s_S_there, .int s_S_kind, .int s_S_tag, .int s_S_size, .int s_S_lineCount], vR T 2 (a_p0 0) 6 s_p0_worlds]
abbrev r_X6_putSpare (E : vE) (T : Nat → ClassId) (o_p0 : Nat) (a_p0 : Nat → Nat) (o_S : Nat) (a_S : Nat → Nat) (o_B : Nat) (s_p0_sentSize : Int32) (s_p0_latestFinding : Int32) (s_p0_latestTries : Int32) (s_p0_latestAsked : Int64) (s_S_there : Int32) (s_S_kind : Int32) (s_S_tag : Int32) (s_S_size : Int32) (s_S_lineCount : Int32) (Q : Int32 → (Nat → Option Nat) → (Nat) → Prop) : Prop := vRi E cX6_putSpare (fun v (u : (Nat → Option Nat) × (Nat)) => Q v u.1 u.2) (fun (u : (Nat → Option Nat) × (Nat)) => (cl_X6_putSpare T o_p0 a_p0 o_S a_S o_B s_p0_sentSize s_p0_latestFinding s_p0_latestTries s_p0_latestAsked s_S_there s_S_kind s_S_tag s_S_size s_S_lineCount u.1 u.2))
def w_X6_putSpare (x_1 : Int32) (s_S_size : Int32) (s_p0_worlds : Nat → Option Nat) (o_S : Nat) (o_B : Nat) (Q : Int32 → (Nat → Option Nat) → (Nat) → Prop) : Prop := (vp_in x_1 6 ∧ s_p0_worlds (x_1).toNatClampNeg = some o_B ∧ (vp_in x_1 6 ∧ (Q s_S_size (va_up s_p0_worlds (x_1).toNatClampNeg (some o_S)) o_B)))
-- X6_putSpare
theorem iX6_putSpare_X5 : ∀ w ∈ wsX50, w ∈ wsX6_putSpare := by decide +kernel
theorem iX6_putSpare_X6 : ∀ w ∈ wsX60, w ∈ wsX6_putSpare := by decide +kernel
set_option maxHeartbeats 4000000 in
set_option maxRecDepth 100000 in
theorem c_X6_putSpare {l : Launch} {D : va_G} {T : Nat → ClassId} {o_p0 : Nat} {a_p0 : Nat → Nat} {o_S : Nat} {a_S : Nat → Nat} {o_B : Nat} {s_p0_sentSize : Int32} {s_p0_latestFinding : Int32} {s_p0_latestTries : Int32} {s_p0_latestAsked : Int64} {s_S_there : Int32} {s_S_kind : Int32} {s_S_tag : Int32} {s_S_size : Int32} {s_S_lineCount : Int32} {s_p0_worlds : Nat → Option Nat} {x_1 : Int32} {Q : Int32 → (Nat → Option Nat) → (Nat) → Prop} (h : w_X6_putSpare x_1 s_S_size s_p0_worlds o_S o_B Q) : vCi l D (vT T) yX6_putSpare wsX6_putSpare (vr 0 0) [.ref o_p0, .int x_1] (cl_X6_putSpare T o_p0 a_p0 o_S a_S o_B s_p0_sentSize s_p0_latestFinding s_p0_latestTries s_p0_latestAsked s_S_there s_S_kind s_S_tag s_S_size s_S_lineCount s_p0_worlds o_S) (fun v (u : (Nat → Option Nat) × (Nat)) => Q v u.1 u.2) (fun (u : (Nat → Option Nat) × (Nat)) => (cl_X6_putSpare T o_p0 a_p0 o_S a_S o_B s_p0_sentSize s_p0_latestFinding s_p0_latestTries s_p0_latestAsked s_S_there s_S_kind s_S_tag s_S_size s_S_lineCount u.1 u.2)) := by
  refine vC_i (cc := cX6_putSpare) (nL := 3) (by decide +kernel) rfl ⟨rfl, rfl⟩ (Nat.le_of_ble_eq_true rfl) rfl ?_
  intro E el eD X r
  unfold w_X6_putSpare at h
  refine v_aload_n X 0 dX6_putSpare_0 rfl rfl ?_
  refine v_get X 0 8 (F := TX6) (N := 13) iX6_putSpare_X6 rfl rfl (by decide) (List.mem_of_getElem? (i := 1) rfl) rfl rfl dX6_putSpare_1 ?_
  refine v_astore_n X (lv' := [(2, .ref o_S), (0, .ref o_p0), (1, .int x_1)]) dX6_putSpare_4 rfl (by decide) rfl ?_
  refine v_aload_n X 1 dX6_putSpare_5 rfl rfl ?_
  refine v_aload_n X 1 dX6_putSpare_6 rfl rfl ?_
  refine v_get X 0 0 (F := TX6) (N := 13) iX6_putSpare_X6 rfl rfl (by decide) (List.mem_of_getElem? (i := 2) rfl) rfl rfl dX6_putSpare_7 ?_
  refine v_iload_n X 2 dX6_putSpare_10 rfl rfl ?_
  refine v_aald X 2 2 rfl rfl h.1 h.2.1 dX6_putSpare_11 ?_
  replace h := h.2.2
  refine v_put X (ws' := (cl_X6_putSpare T o_p0 a_p0 o_S a_S o_B s_p0_sentSize s_p0_latestFinding s_p0_latestTries s_p0_latestAsked s_S_there s_S_kind s_S_tag s_S_size s_S_lineCount s_p0_worlds o_B)) 0 8 (F := TX6) (N := 13) iX6_putSpare_X6 rfl tyX6 tyX6_ok nmX6 rfl (by decide) (List.mem_of_getElem? (i := 1) rfl) rfl rfl rfl rfl rfl (Nat.le_of_ble_eq_true rfl) rfl dX6_putSpare_12 ?_
  refine v_aload_n X 1 dX6_putSpare_15 rfl rfl ?_
  refine v_get X 0 0 (F := TX6) (N := 13) iX6_putSpare_X6 rfl rfl (by decide) (List.mem_of_getElem? (i := 2) rfl) rfl rfl dX6_putSpare_16 ?_
  refine v_iload_n X 2 dX6_putSpare_19 rfl rfl ?_
  refine v_aload_n X 0 dX6_putSpare_20 rfl rfl ?_
  refine v_aast X (ws' := (cl_X6_putSpare T o_p0 a_p0 o_S a_S o_B s_p0_sentSize s_p0_latestFinding s_p0_latestTries s_p0_latestAsked s_S_there s_S_kind s_S_tag s_S_size s_S_lineCount (va_up s_p0_worlds (x_1).toNatClampNeg (some o_S)) o_B)) (r := (RX5, TX5, 8)) 2 2 1 rfl rfl rfl rfl h.1 rfl dX6_putSpare_21 ?_
  replace h := h.2
  refine v_aload_n X 0 dX6_putSpare_22 rfl rfl ?_
  refine v_getN X 1 6 (F := TX5) (N := 8) iX6_putSpare_X5 rfl rfl (by decide) (List.mem_of_getElem? (i := 29) rfl) rfl rfl dX6_putSpare_23 ?_
  exact r _ _ _ ((va_up s_p0_worlds (x_1).toNatClampNeg (some o_S)), o_B) _ dX6_putSpare_26 h rfl
-- X6_dual
abbrev cl_X6_dual (T : Nat → ClassId) (o_p0 : Nat) (a_p0 : Nat → Nat) (o_S : Nat) (a_S : Nat → Nat) (o_W : Nat) (a_W : Nat → Nat) (o_B : Nat) (s_p0_sentSize : Int32) (s_p0_latestFinding : Int32) (s_p0_latestTries : Int32) (s_p0_latestAsked : Int64) (s_S_there : Int32) (s_S_kind : Int32) (s_S_tag : Int32) (s_S_size : Int32) (s_S_lineCount : Int32) (s_S_near : Nat → Int64) (s_S_sets : Nat → Int64) (s_S_through : Nat → Int64) (s_W_there : Int32) (s_W_kind : Int32) (s_W_tag : Int32) (s_W_size : Int32) (s_W_lineCount : Int32) (s_W_through : Nat → Int64) (s_p0_findingTimes : Nat → Int32) (s_p0_worlds : Nat → Option Nat) (s_p0_spare : Nat) : va_W := [vO o_p0 3 [.ref (a_p0 0), .ref (a_p0 1), .ref (a_p0 2), .ref (a_p0 3), .ref (a_p0 4), .ref (a_p0 5), .ref (a_p0 6), .ref (a_p0 7), .ref s_p0_spare, .int s_p0_sentSize, .int s_p0_latestFinding, .int s_p0_latestTries, .long s_p0_latestAsked], vO o_S 2 [.ref (a_S 0), .ref (a_S 1), .ref (a_S 2), .int s_S_there, .int s_S_kind, .int s_S_tag, .int s_S_size, .int s_S_lineCount], vJ T (a_S 2) 45 s_S_near, vJ T (a_S 0) 45 s_S_sets, vJ T (a_S 1) 45 s_S_through, vO o_W 2 [.ref (a_W 0), .ref (a_W 1), .ref (a_W 2), .int s_W_there, .int s_W_kind, .int s_W_tag, .int s_W_size, .int s_W_lineCount], vJ T (a_W 1) 45 s_W_through, vI T (a_p0 3) 6 s_p0_findingTimes, vR T 2 (a_p0 0) 6 s_p0_worlds]
abbrev r_X6_dual (E : vE) (T : Nat → ClassId) (o_p0 : Nat) (a_p0 : Nat → Nat) (o_S : Nat) (a_S : Nat → Nat) (o_W : Nat) (a_W : Nat → Nat) (o_B : Nat) (s_p0_sentSize : Int32) (s_p0_latestTries : Int32) (s_p0_latestAsked : Int64) (s_W_there : Int32) (s_W_kind : Int32) (s_W_tag : Int32) (s_W_size : Int32) (s_W_lineCount : Int32) (s_W_through : Nat → Int64) (Q : Int32 → (Int32) → (Int32) → (Int32) → (Int32) → (Int32) → (Int32) → (Nat → Int64) → (Nat → Int64) → (Nat → Int64) → (Nat → Int32) → (Nat → Option Nat) → (Nat) → Prop) : Prop := vRi E cX6_dual (fun v (u : (Int32) × (Int32) × (Int32) × (Int32) × (Int32) × (Int32) × (Nat → Int64) × (Nat → Int64) × (Nat → Int64) × (Nat → Int32) × (Nat → Option Nat) × (Nat)) => Q v u.1 u.2.1 u.2.2.1 u.2.2.2.1 u.2.2.2.2.1 u.2.2.2.2.2.1 u.2.2.2.2.2.2.1 u.2.2.2.2.2.2.2.1 u.2.2.2.2.2.2.2.2.1 u.2.2.2.2.2.2.2.2.2.1 u.2.2.2.2.2.2.2.2.2.2.1 u.2.2.2.2.2.2.2.2.2.2.2) (fun (u : (Int32) × (Int32) × (Int32) × (Int32) × (Int32) × (Int32) × (Nat → Int64) × (Nat → Int64) × (Nat → Int64) × (Nat → Int32) × (Nat → Option Nat) × (Nat)) => (cl_X6_dual T o_p0 a_p0 o_S a_S o_W a_W o_B s_p0_sentSize u.1 s_p0_latestTries s_p0_latestAsked u.2.1 u.2.2.1 u.2.2.2.1 u.2.2.2.2.1 u.2.2.2.2.2.1 u.2.2.2.2.2.2.1 u.2.2.2.2.2.2.2.1 u.2.2.2.2.2.2.2.2.1 s_W_there s_W_kind s_W_tag s_W_size s_W_lineCount s_W_through u.2.2.2.2.2.2.2.2.2.1 u.2.2.2.2.2.2.2.2.2.2.1 u.2.2.2.2.2.2.2.2.2.2.2))
def w_X6_dual_14 (s_p0_latestFinding : Int32) (s_S_there : Int32) (s_S_kind : Int32) (s_S_tag : Int32) (s_S_size : Int32) (s_S_lineCount : Int32) (s_S_near : Nat → Int64) (s_S_sets : Nat → Int64) (s_S_through : Nat → Int64) (s_W_there : Int32) (s_W_size : Int32) (s_W_lineCount : Int32) (s_W_through : Nat → Int64) (s_p0_findingTimes : Nat → Int32) (s_p0_worlds : Nat → Option Nat) (o_S : Nat) (o_W : Nat) (o_B : Nat) (Q : Int32 → (Int32) → (Int32) → (Int32) → (Int32) → (Int32) → (Int32) → (Nat → Int64) → (Nat → Int64) → (Nat → Int64) → (Nat → Int32) → (Nat → Option Nat) → (Nat) → Prop) : Prop := (Q (-1 : Int32) s_p0_latestFinding s_S_there s_S_kind s_S_tag s_S_size s_S_lineCount s_S_near s_S_sets s_S_through s_p0_findingTimes s_p0_worlds o_S)
def w_X6_dual (x_1 : Int32) (x_2 : Int32) (s_p0_latestFinding : Int32) (s_S_there : Int32) (s_S_kind : Int32) (s_S_tag : Int32) (s_S_size : Int32) (s_S_lineCount : Int32) (s_S_near : Nat → Int64) (s_S_sets : Nat → Int64) (s_S_through : Nat → Int64) (s_W_there : Int32) (s_W_size : Int32) (s_W_lineCount : Int32) (s_W_through : Nat → Int64) (s_p0_findingTimes : Nat → Int32) (s_p0_worlds : Nat → Option Nat) (o_S : Nat) (o_W : Nat) (o_B : Nat) (Q : Int32 → (Int32) → (Int32) → (Int32) → (Int32) → (Int32) → (Int32) → (Nat → Int64) → (Nat → Int64) → (Nat → Int64) → (Nat → Int32) → (Nat → Option Nat) → (Nat) → Prop) : Prop := (w_X6_isWorldNumber x_1 (fun (r_1 : Int32) => ((r_1 = 0 → (w_X6_dual_14 s_p0_latestFinding s_S_there s_S_kind s_S_tag s_S_size s_S_lineCount s_S_near s_S_sets s_S_through s_W_there s_W_size s_W_lineCount s_W_through s_p0_findingTimes s_p0_worlds o_S o_W o_B Q)) ∧ (¬ r_1 = 0 → (w_X6_isWorldNumber x_2 (fun (r_8 : Int32) => ((¬ r_8 = 0 → (vp_in x_1 6 ∧ s_p0_worlds (x_1).toNatClampNeg = some o_W ∧ ((¬ s_W_there = 0 → (w_X5_leastThrough s_W_size s_W_through (fun (r_37 : Int32) => (((2 : Int32) ≤ r_37 → (w_X1_makeTurned s_W_size s_W_lineCount s_W_through s_S_there s_S_kind s_S_tag s_S_size s_S_lineCount s_S_near s_S_sets s_S_through (fun (u_52_0 : Int32) (u_52_1 : Int32) (u_52_2 : Int32) (u_52_3 : Int32) (u_52_4 : Int32) (u_52_5 : Nat → Int64) (u_52_6 : Nat → Int64) (u_52_7 : Nat → Int64) => (w_X6_putSpare x_2 u_52_3 s_p0_worlds o_S o_B (fun (r_57 : Int32) (u_57_0 : Nat → Option Nat) (u_57_1 : Nat) => (Q r_57 s_p0_latestFinding u_52_0 u_52_1 u_52_2 u_52_3 u_52_4 u_52_5 u_52_6 u_52_7 s_p0_findingTimes u_57_0 u_57_1)))))) ∧ (¬ (2 : Int32) ≤ r_37 → (Q (-4 : Int32) s_p0_latestFinding s_S_there s_S_kind s_S_tag s_S_size s_S_lineCount s_S_near s_S_sets s_S_through s_p0_findingTimes s_p0_worlds o_S)))))) ∧ (s_W_there = 0 → (w_X6_refused (1 : Int32) s_p0_latestFinding s_p0_findingTimes (fun (r_32 : Int32) (u_32_0 : Int32) (u_32_1 : Nat → Int32) => (Q r_32 u_32_0 s_S_there s_S_kind s_S_tag s_S_size s_S_lineCount s_S_near s_S_sets s_S_through u_32_1 s_p0_worlds o_S))))))) ∧ (r_8 = 0 → (w_X6_dual_14 s_p0_latestFinding s_S_there s_S_kind s_S_tag s_S_size s_S_lineCount s_S_near s_S_sets s_S_through s_W_there s_W_size s_W_lineCount s_W_through s_p0_findingTimes s_p0_worlds o_S o_W o_B Q)))))))))
-- X6_dual
theorem iX6_dual_X5 : ∀ w ∈ wsX50, w ∈ wsX6_dual := by decide +kernel
theorem iX6_dual_X6 : ∀ w ∈ wsX60, w ∈ wsX6_dual := by decide +kernel
set_option maxHeartbeats 4000000 in
set_option maxRecDepth 100000 in
theorem k_X6_dual_14 {E : vE} {T : Nat → ClassId} {o_p0 : Nat} {a_p0 : Nat → Nat} {o_S : Nat} {a_S : Nat → Nat} {o_W : Nat} {a_W : Nat → Nat} {o_B : Nat} {s_p0_sentSize : Int32} {s_p0_latestFinding : Int32} {s_p0_latestTries : Int32} {s_p0_latestAsked : Int64} {s_S_there : Int32} {s_S_kind : Int32} {s_S_tag : Int32} {s_S_size : Int32} {s_S_lineCount : Int32} {s_S_near : Nat → Int64} {s_S_sets : Nat → Int64} {s_S_through : Nat → Int64} {s_W_there : Int32} {s_W_kind : Int32} {s_W_tag : Int32} {s_W_size : Int32} {s_W_lineCount : Int32} {s_W_through : Nat → Int64} {s_p0_findingTimes : Nat → Int32} {s_p0_worlds : Nat → Option Nat} {Q : Int32 → (Int32) → (Int32) → (Int32) → (Int32) → (Int32) → (Int32) → (Nat → Int64) → (Nat → Int64) → (Nat → Int64) → (Nat → Int32) → (Nat → Option Nat) → (Nat) → Prop} (X : vX E cX6_dual 4 RX6 wsX6_dual (vT T) (vr 3 67)) (r : r_X6_dual E T o_p0 a_p0 o_S a_S o_W a_W o_B s_p0_sentSize s_p0_latestTries s_p0_latestAsked s_W_there s_W_kind s_W_tag s_W_size s_W_lineCount s_W_through Q) (h : w_X6_dual_14 s_p0_latestFinding s_S_there s_S_kind s_S_tag s_S_size s_S_lineCount s_S_near s_S_sets s_S_through s_W_there s_W_size s_W_lineCount s_W_through s_p0_findingTimes s_p0_worlds o_S o_W o_B Q) : V E 0 0 14 [] [] (cl_X6_dual T o_p0 a_p0 o_S a_S o_W a_W o_B s_p0_sentSize s_p0_latestFinding s_p0_latestTries s_p0_latestAsked s_S_there s_S_kind s_S_tag s_S_size s_S_lineCount s_S_near s_S_sets s_S_through s_W_there s_W_kind s_W_tag s_W_size s_W_lineCount s_W_through s_p0_findingTimes s_p0_worlds o_S) := by
  unfold w_X6_dual_14 at h
  refine v_iconst X dX6_dual_14 (v := (-1 : Int32)) (by decide) ?_
  exact r _ _ _ (s_p0_latestFinding, s_S_there, s_S_kind, s_S_tag, s_S_size, s_S_lineCount, s_S_near, s_S_sets, s_S_through, s_p0_findingTimes, s_p0_worlds, o_S) _ dX6_dual_15 h rfl
set_option maxHeartbeats 4000000 in
set_option maxRecDepth 100000 in
theorem c_X6_dual {l : Launch} {D : va_G} {T : Nat → ClassId} {o_p0 : Nat} {a_p0 : Nat → Nat} {o_S : Nat} {a_S : Nat → Nat} {o_W : Nat} {a_W : Nat → Nat} {o_B : Nat} {s_p0_sentSize : Int32} {s_p0_latestFinding : Int32} {s_p0_latestTries : Int32} {s_p0_latestAsked : Int64} {s_S_there : Int32} {s_S_kind : Int32} {s_S_tag : Int32} {s_S_size : Int32} {s_S_lineCount : Int32} {s_S_near : Nat → Int64} {s_S_sets : Nat → Int64} {s_S_through : Nat → Int64} {s_W_there : Int32} {s_W_kind : Int32} {s_W_tag : Int32} {s_W_size : Int32} {s_W_lineCount : Int32} {s_W_through : Nat → Int64} {s_p0_findingTimes : Nat → Int32} {s_p0_worlds : Nat → Option Nat} {x_1 : Int32} {x_2 : Int32} {Q : Int32 → (Int32) → (Int32) → (Int32) → (Int32) → (Int32) → (Int32) → (Nat → Int64) → (Nat → Int64) → (Nat → Int64) → (Nat → Int32) → (Nat → Option Nat) → (Nat) → Prop} (h : w_X6_dual x_1 x_2 s_p0_latestFinding s_S_there s_S_kind s_S_tag s_S_size s_S_lineCount s_S_near s_S_sets s_S_through s_W_there s_W_size s_W_lineCount s_W_through s_p0_findingTimes s_p0_worlds o_S o_W o_B Q) : vCi l D (vT T) yX6_dual wsX6_dual (vr 3 67) [.ref o_p0, .int x_1, .int x_2] (cl_X6_dual T o_p0 a_p0 o_S a_S o_W a_W o_B s_p0_sentSize s_p0_latestFinding s_p0_latestTries s_p0_latestAsked s_S_there s_S_kind s_S_tag s_S_size s_S_lineCount s_S_near s_S_sets s_S_through s_W_there s_W_kind s_W_tag s_W_size s_W_lineCount s_W_through s_p0_findingTimes s_p0_worlds o_S) (fun v (u : (Int32) × (Int32) × (Int32) × (Int32) × (Int32) × (Int32) × (Nat → Int64) × (Nat → Int64) × (Nat → Int64) × (Nat → Int32) × (Nat → Option Nat) × (Nat)) => Q v u.1 u.2.1 u.2.2.1 u.2.2.2.1 u.2.2.2.2.1 u.2.2.2.2.2.1 u.2.2.2.2.2.2.1 u.2.2.2.2.2.2.2.1 u.2.2.2.2.2.2.2.2.1 u.2.2.2.2.2.2.2.2.2.1 u.2.2.2.2.2.2.2.2.2.2.1 u.2.2.2.2.2.2.2.2.2.2.2) (fun (u : (Int32) × (Int32) × (Int32) × (Int32) × (Int32) × (Int32) × (Nat → Int64) × (Nat → Int64) × (Nat → Int64) × (Nat → Int32) × (Nat → Option Nat) × (Nat)) => (cl_X6_dual T o_p0 a_p0 o_S a_S o_W a_W o_B s_p0_sentSize u.1 s_p0_latestTries s_p0_latestAsked u.2.1 u.2.2.1 u.2.2.2.1 u.2.2.2.2.1 u.2.2.2.2.2.1 u.2.2.2.2.2.2.1 u.2.2.2.2.2.2.2.1 u.2.2.2.2.2.2.2.2.1 s_W_there s_W_kind s_W_tag s_W_size s_W_lineCount s_W_through u.2.2.2.2.2.2.2.2.2.1 u.2.2.2.2.2.2.2.2.2.2.1 u.2.2.2.2.2.2.2.2.2.2.2)) := by
  refine vC_i (cc := cX6_dual) (nL := 4) (by decide +kernel) rfl ⟨rfl, rfl⟩ (Nat.le_of_ble_eq_true rfl) rfl ?_
  intro E el eD X r
  unfold w_X6_dual at h
  refine v_iload_n X 1 dX6_dual_0 rfl rfl ?_
  refine v_callSi0 X (As := [.int x_1]) (rest := []) 1 (c_X6_isWorldNumber (l := vl E) (D := vD E) (T := T) (x_0 := x_1) h) gX6_dual_X6_isWorldNumber rfl rfl (by decide +kernel) ⟨Nat.zero_le _, Nat.zero_le _⟩ ⟨rfl, rfl, by decide, by decide⟩ (Nat.le_of_ble_eq_true rfl) rfl dX6_dual_1 (fun r_1 h => ?_)
  refine v_if_eq X (tgt := 14) dX6_dual_4 (by decide) (fun c_4 => ?_) (fun c_4 => ?_)
  · replace h := h.1 c_4
    refine v_lv (lv' := []) [] rfl ?_
    exact k_X6_dual_14 X r h
  · replace h := h.2 c_4
    refine v_iload_n X 2 dX6_dual_7 rfl rfl ?_
    refine v_callSi0 X (As := [.int x_2]) (rest := []) 1 (c_X6_isWorldNumber (l := vl E) (D := vD E) (T := T) (x_0 := x_2) h) gX6_dual_X6_isWorldNumber rfl rfl (by decide +kernel) ⟨Nat.zero_le _, Nat.zero_le _⟩ ⟨rfl, rfl, by decide, by decide⟩ (Nat.le_of_ble_eq_true rfl) rfl dX6_dual_8 (fun r_8 h => ?_)
    refine v_if_ne X (tgt := 16) dX6_dual_11 (by decide) (fun c_11 => ?_) (fun c_11 => ?_)
    · replace h := h.1 c_11
      refine v_aload_n X 0 dX6_dual_16 rfl rfl ?_
      refine v_get X 0 0 (F := TX6) (N := 13) iX6_dual_X6 rfl rfl (by decide) (List.mem_of_getElem? (i := 1) rfl) rfl rfl dX6_dual_17 ?_
      refine v_iload_n X 1 dX6_dual_20 rfl rfl ?_
      refine v_aald X 8 2 rfl rfl h.1 h.2.1 dX6_dual_21 ?_
      replace h := h.2.2
      refine v_astore_n X (lv' := [(3, .ref o_W), (0, .ref o_p0), (1, .int x_1), (2, .int x_2)]) dX6_dual_22 rfl (by decide) rfl ?_
      refine v_aload_n X 0 dX6_dual_23 rfl rfl ?_
      refine v_getN X 5 3 (F := TX5) (N := 8) iX6_dual_X5 rfl rfl (by decide) (List.mem_of_getElem? (i := 23) rfl) rfl rfl dX6_dual_24 ?_
      refine v_if_ne X (tgt := 36) dX6_dual_27 (by decide) (fun c_27 => ?_) (fun c_27 => ?_)
      · replace h := h.1 c_27
        refine v_aload_n X 0 dX6_dual_36 rfl rfl ?_
        refine v_callVi X (As := []) (rest := []) 0 0 (c_X5_leastThrough (l := vl E) (D := vD E) (T := T) (o_p0 := o_W) (a_p0 := a_W) (s_p0_there := s_W_there) (s_p0_kind := s_W_kind) (s_p0_tag := s_W_tag) (s_p0_size := s_W_size) (s_p0_lineCount := s_W_lineCount) (s_p0_through := s_W_through) h) gX6_dual_X5_leastThrough rfl rfl (by decide +kernel) ⟨Nat.zero_le _, Nat.zero_le _⟩ ⟨rfl, rfl, by decide, by decide⟩ (Nat.le_of_ble_eq_true rfl) rfl rfl (wr := [vO o_p0 3 [.ref (a_p0 0), .ref (a_p0 1), .ref (a_p0 2), .ref (a_p0 3), .ref (a_p0 4), .ref (a_p0 5), .ref (a_p0 6), .ref (a_p0 7), .ref o_S, .int s_p0_sentSize, .int s_p0_latestFinding, .int s_p0_latestTries, .long s_p0_latestAsked], vO o_S 2 [.ref (a_S 0), .ref (a_S 1), .ref (a_S 2), .int s_S_there, .int s_S_kind, .int s_S_tag, .int s_S_size, .int s_S_lineCount], vJ T (a_S 2) 45 s_S_near, vJ T (a_S 0) 45 s_S_sets, vJ T (a_S 1) 45 s_S_through, vI T (a_p0 3) 6 s_p0_findingTimes, vR T 2 (a_p0 0) 6 s_p0_worlds]) [5, 6] [0, 1, 2, 3, 4, 7, 8] rfl rfl rfl rfl (by decide) rfl dX6_dual_37 (fun r_37 u h => ?_)
        refine v_ws (ws' := (cl_X6_dual T o_p0 a_p0 o_S a_S o_W a_W o_B s_p0_sentSize s_p0_latestFinding s_p0_latestTries s_p0_latestAsked s_S_there s_S_kind s_S_tag s_S_size s_S_lineCount s_S_near s_S_sets s_S_through s_W_there s_W_kind s_W_tag s_W_size s_W_lineCount s_W_through s_p0_findingTimes s_p0_worlds o_S)) [0, 1, 2, 3, 4, 7, 8, 5, 6] rfl rfl ?_
        refine v_iconst X dX6_dual_40 (v := (2 : Int32)) (by decide) ?_
        refine v_icmp_ge X (tgt := 47) dX6_dual_41 (by decide) (fun c_41 => ?_) (fun c_41 => ?_)
        · replace h := h.1 c_41
          refine v_aload_n X 0 dX6_dual_47 rfl rfl ?_
          refine v_aload_n X 1 dX6_dual_48 rfl rfl ?_
          refine v_get X 0 8 (F := TX6) (N := 13) iX6_dual_X6 rfl rfl (by decide) (List.mem_of_getElem? (i := 2) rfl) rfl rfl dX6_dual_49 ?_
          refine v_callSv X (As := [.ref o_W, .ref o_S]) (rest := []) 2 (c_X1_makeTurned (l := vl E) (D := vD E) (T := T) (o_p0 := o_W) (a_p0 := a_W) (o_p1 := o_S) (a_p1 := a_S) (s_p0_there := s_W_there) (s_p0_kind := s_W_kind) (s_p0_tag := s_W_tag) (s_p0_size := s_W_size) (s_p0_lineCount := s_W_lineCount) (s_p0_through := s_W_through) (s_p1_there := s_S_there) (s_p1_kind := s_S_kind) (s_p1_tag := s_S_tag) (s_p1_size := s_S_size) (s_p1_lineCount := s_S_lineCount) (s_p1_near := s_S_near) (s_p1_sets := s_S_sets) (s_p1_through := s_S_through) h) gX6_dual_X1_makeTurned rfl rfl (by decide +kernel) ⟨Nat.zero_le _, Nat.zero_le _⟩ ⟨rfl, rfl, by decide, by decide⟩ (Nat.le_of_ble_eq_true rfl) (wr := [vO o_p0 3 [.ref (a_p0 0), .ref (a_p0 1), .ref (a_p0 2), .ref (a_p0 3), .ref (a_p0 4), .ref (a_p0 5), .ref (a_p0 6), .ref (a_p0 7), .ref o_S, .int s_p0_sentSize, .int s_p0_latestFinding, .int s_p0_latestTries, .long s_p0_latestAsked], vI T (a_p0 3) 6 s_p0_findingTimes, vR T 2 (a_p0 0) 6 s_p0_worlds]) [5, 6, 1, 2, 3, 4] [0, 7, 8] rfl rfl rfl rfl (by decide) rfl dX6_dual_52 (fun u h => ?_)
          obtain ⟨u_52_0, u_52_1, u_52_2, u_52_3, u_52_4, u_52_5, u_52_6, u_52_7⟩ := u
          dsimp only at h
          refine v_ws (ws' := (cl_X6_dual T o_p0 a_p0 o_S a_S o_W a_W o_B s_p0_sentSize s_p0_latestFinding s_p0_latestTries s_p0_latestAsked u_52_0 u_52_1 u_52_2 u_52_3 u_52_4 u_52_5 u_52_6 u_52_7 s_W_there s_W_kind s_W_tag s_W_size s_W_lineCount s_W_through s_p0_findingTimes s_p0_worlds o_S)) [0, 5, 6, 7, 8, 3, 4, 1, 2] rfl rfl ?_
          refine v_aload_n X 1 dX6_dual_55 rfl rfl ?_
          refine v_iload_n X 3 dX6_dual_56 rfl rfl ?_
          refine v_callVi X (As := [.int x_2]) (rest := []) 1 0 (c_X6_putSpare (l := vl E) (D := vD E) (T := T) (o_p0 := o_p0) (a_p0 := a_p0) (o_S := o_S) (a_S := a_S) (o_B := o_B) (s_p0_sentSize := s_p0_sentSize) (s_p0_latestFinding := s_p0_latestFinding) (s_p0_latestTries := s_p0_latestTries) (s_p0_latestAsked := s_p0_latestAsked) (s_S_there := u_52_0) (s_S_kind := u_52_1) (s_S_tag := u_52_2) (s_S_size := u_52_3) (s_S_lineCount := u_52_4) (s_p0_worlds := s_p0_worlds) (x_1 := x_2) h) gX6_dual_X6_putSpare rfl rfl (by decide +kernel) ⟨Nat.zero_le _, Nat.zero_le _⟩ ⟨rfl, rfl, by decide, by decide⟩ (Nat.le_of_ble_eq_true rfl) rfl rfl (wr := [vJ T (a_S 2) 45 u_52_5, vJ T (a_S 0) 45 u_52_6, vJ T (a_S 1) 45 u_52_7, vO o_W 2 [.ref (a_W 0), .ref (a_W 1), .ref (a_W 2), .int s_W_there, .int s_W_kind, .int s_W_tag, .int s_W_size, .int s_W_lineCount], vJ T (a_W 1) 45 s_W_through, vI T (a_p0 3) 6 s_p0_findingTimes]) [0, 1, 8] [2, 3, 4, 5, 6, 7] rfl rfl rfl rfl (by decide) rfl dX6_dual_57 (fun r_57 u h => ?_)
          obtain ⟨u_57_0, u_57_1⟩ := u
          dsimp only at h
          refine v_ws (ws' := (cl_X6_dual T o_p0 a_p0 o_S a_S o_W a_W o_B s_p0_sentSize s_p0_latestFinding s_p0_latestTries s_p0_latestAsked u_52_0 u_52_1 u_52_2 u_52_3 u_52_4 u_52_5 u_52_6 u_52_7 s_W_there s_W_kind s_W_tag s_W_size s_W_lineCount s_W_through s_p0_findingTimes u_57_0 u_57_1)) [6, 7, 0, 1, 2, 3, 4, 5, 8] rfl rfl ?_
          exact r _ _ _ (s_p0_latestFinding, u_52_0, u_52_1, u_52_2, u_52_3, u_52_4, u_52_5, u_52_6, u_52_7, s_p0_findingTimes, u_57_0, u_57_1) _ dX6_dual_60 h rfl
        · replace h := h.2 c_41
          refine v_bipush X dX6_dual_44 (v := (-4 : Int32)) (by decide) ?_
          exact r _ _ _ (s_p0_latestFinding, s_S_there, s_S_kind, s_S_tag, s_S_size, s_S_lineCount, s_S_near, s_S_sets, s_S_through, s_p0_findingTimes, s_p0_worlds, o_S) _ dX6_dual_46 h rfl
      · replace h := h.2 c_27
        refine v_aload_n X 1 dX6_dual_30 rfl rfl ?_
        refine v_iconst X dX6_dual_31 (v := (1 : Int32)) (by decide) ?_
        refine v_callVi X (As := [.int (1 : Int32)]) (rest := []) 1 0 (c_X6_refused (l := vl E) (D := vD E) (T := T) (o_p0 := o_p0) (a_p0 := a_p0) (o_S := o_S) (s_p0_sentSize := s_p0_sentSize) (s_p0_latestFinding := s_p0_latestFinding) (s_p0_latestTries := s_p0_latestTries) (s_p0_latestAsked := s_p0_latestAsked) (s_p0_findingTimes := s_p0_findingTimes) (x_1 := (1 : Int32)) h) gX6_dual_X6_refused rfl rfl (by decide +kernel) ⟨Nat.zero_le _, Nat.zero_le _⟩ ⟨rfl, rfl, by decide, by decide⟩ (Nat.le_of_ble_eq_true rfl) rfl rfl (wr := [vO o_S 2 [.ref (a_S 0), .ref (a_S 1), .ref (a_S 2), .int s_S_there, .int s_S_kind, .int s_S_tag, .int s_S_size, .int s_S_lineCount], vJ T (a_S 2) 45 s_S_near, vJ T (a_S 0) 45 s_S_sets, vJ T (a_S 1) 45 s_S_through, vO o_W 2 [.ref (a_W 0), .ref (a_W 1), .ref (a_W 2), .int s_W_there, .int s_W_kind, .int s_W_tag, .int s_W_size, .int s_W_lineCount], vJ T (a_W 1) 45 s_W_through, vR T 2 (a_p0 0) 6 s_p0_worlds]) [0, 7] [1, 2, 3, 4, 5, 6, 8] rfl rfl rfl rfl (by decide) rfl dX6_dual_32 (fun r_32 u h => ?_)
        obtain ⟨u_32_0, u_32_1⟩ := u
        dsimp only at h
        refine v_ws (ws' := (cl_X6_dual T o_p0 a_p0 o_S a_S o_W a_W o_B s_p0_sentSize u_32_0 s_p0_latestTries s_p0_latestAsked s_S_there s_S_kind s_S_tag s_S_size s_S_lineCount s_S_near s_S_sets s_S_through s_W_there s_W_kind s_W_tag s_W_size s_W_lineCount s_W_through u_32_1 s_p0_worlds o_S)) [7, 0, 1, 2, 3, 4, 5, 8, 6] rfl rfl ?_
        exact r _ _ _ (u_32_0, s_S_there, s_S_kind, s_S_tag, s_S_size, s_S_lineCount, s_S_near, s_S_sets, s_S_through, u_32_1, s_p0_worlds, o_S) _ dX6_dual_35 h rfl
    · replace h := h.2 c_11
      refine v_lv (lv' := []) [] rfl ?_
      exact k_X6_dual_14 X r h
-- X6_derive
abbrev cl_X6_derive (T : Nat → ClassId) (o_p0 : Nat) (a_p0 : Nat → Nat) (o_S : Nat) (a_S : Nat → Nat) (o_W : Nat) (a_W : Nat → Nat) (o_B : Nat) (s_p0_sentSize : Int32) (s_p0_latestFinding : Int32) (s_p0_latestTries : Int32) (s_p0_latestAsked : Int64) (s_S_there : Int32) (s_S_kind : Int32) (s_S_tag : Int32) (s_S_size : Int32) (s_S_lineCount : Int32) (s_S_near : Nat → Int64) (s_S_sets : Nat → Int64) (s_S_through : Nat → Int64) (s_W_there : Int32) (s_W_kind : Int32) (s_W_tag : Int32) (s_W_size : Int32) (s_W_lineCount : Int32) (s_W_near : Nat → Int64) (s_W_sets : Nat → Int64) (s_W_through : Nat → Int64) (s_p0_findingTimes : Nat → Int32) (s_p0_worlds : Nat → Option Nat) (s_p0_spare : Nat) : va_W := [vO o_p0 3 [.ref (a_p0 0), .ref (a_p0 1), .ref (a_p0 2), .ref (a_p0 3), .ref (a_p0 4), .ref (a_p0 5), .ref (a_p0 6), .ref (a_p0 7), .ref s_p0_spare, .int s_p0_sentSize, .int s_p0_latestFinding, .int s_p0_latestTries, .long s_p0_latestAsked], vO o_S 2 [.ref (a_S 0), .ref (a_S 1), .ref (a_S 2), .int s_S_there, .int s_S_kind, .int s_S_tag, .int s_S_size, .int s_S_lineCount], vJ T (a_S 2) 45 s_S_near, vJ T (a_S 0) 45 s_S_sets, vJ T (a_S 1) 45 s_S_through, vO o_W 2 [.ref (a_W 0), .ref (a_W 1), .ref (a_W 2), .int s_W_there, .int s_W_kind, .int s_W_tag, .int s_W_size, .int s_W_lineCount], vJ T (a_W 2) 45 s_W_near, vJ T (a_W 0) 45 s_W_sets, vJ T (a_W 1) 45 s_W_through, vI T (a_p0 3) 6 s_p0_findingTimes, vR T 2 (a_p0 0) 6 s_p0_worlds]
abbrev r_X6_derive (E : vE) (T : Nat → ClassId) (o_p0 : Nat) (a_p0 : Nat → Nat) (o_S : Nat) (a_S : Nat → Nat) (o_W : Nat) (a_W : Nat → Nat) (o_B : Nat) (s_p0_sentSize : Int32) (s_p0_latestTries : Int32) (s_p0_latestAsked : Int64) (s_W_there : Int32) (s_W_kind : Int32) (s_W_tag : Int32) (s_W_size : Int32) (s_W_lineCount : Int32) (s_W_near : Nat → Int64) (s_W_sets : Nat → Int64) (s_W_through : Nat → Int64) (Q : Int32 → (Int32) → (Int32) → (Int32) → (Int32) → (Int32) → (Int32) → (Nat → Int64) → (Nat → Int64) → (Nat → Int64) → (Nat → Int32) → (Nat → Option Nat) → (Nat) → Prop) : Prop := vRi E cX6_derive (fun v (u : (Int32) × (Int32) × (Int32) × (Int32) × (Int32) × (Int32) × (Nat → Int64) × (Nat → Int64) × (Nat → Int64) × (Nat → Int32) × (Nat → Option Nat) × (Nat)) => Q v u.1 u.2.1 u.2.2.1 u.2.2.2.1 u.2.2.2.2.1 u.2.2.2.2.2.1 u.2.2.2.2.2.2.1 u.2.2.2.2.2.2.2.1 u.2.2.2.2.2.2.2.2.1 u.2.2.2.2.2.2.2.2.2.1 u.2.2.2.2.2.2.2.2.2.2.1 u.2.2.2.2.2.2.2.2.2.2.2) (fun (u : (Int32) × (Int32) × (Int32) × (Int32) × (Int32) × (Int32) × (Nat → Int64) × (Nat → Int64) × (Nat → Int64) × (Nat → Int32) × (Nat → Option Nat) × (Nat)) => (cl_X6_derive T o_p0 a_p0 o_S a_S o_W a_W o_B s_p0_sentSize u.1 s_p0_latestTries s_p0_latestAsked u.2.1 u.2.2.1 u.2.2.2.1 u.2.2.2.2.1 u.2.2.2.2.2.1 u.2.2.2.2.2.2.1 u.2.2.2.2.2.2.2.1 u.2.2.2.2.2.2.2.2.1 s_W_there s_W_kind s_W_tag s_W_size s_W_lineCount s_W_near s_W_sets s_W_through u.2.2.2.2.2.2.2.2.2.1 u.2.2.2.2.2.2.2.2.2.2.1 u.2.2.2.2.2.2.2.2.2.2.2))
def w_X6_derive_93 (s_p0_latestFinding : Int32) (s_S_there : Int32) (s_S_kind : Int32) (s_S_tag : Int32) (s_S_size : Int32) (s_S_lineCount : Int32) (s_S_near : Nat → Int64) (s_S_sets : Nat → Int64) (s_S_through : Nat → Int64) (s_W_there : Int32) (s_W_size : Int32) (s_W_lineCount : Int32) (s_W_near : Nat → Int64) (s_W_sets : Nat → Int64) (s_W_through : Nat → Int64) (s_p0_findingTimes : Nat → Int32) (s_p0_worlds : Nat → Option Nat) (o_S : Nat) (o_W : Nat) (o_B : Nat) (Q : Int32 → (Int32) → (Int32) → (Int32) → (Int32) → (Int32) → (Int32) → (Nat → Int64) → (Nat → Int64) → (Nat → Int64) → (Nat → Int32) → (Nat → Option Nat) → (Nat) → Prop) : Prop := (Q (-4 : Int32) s_p0_latestFinding s_S_there s_S_kind s_S_tag s_S_size s_S_lineCount s_S_near s_S_sets s_S_through s_p0_findingTimes s_p0_worlds o_S)
def w_X6_derive_14 (s_p0_latestFinding : Int32) (s_S_there : Int32) (s_S_kind : Int32) (s_S_tag : Int32) (s_S_size : Int32) (s_S_lineCount : Int32) (s_S_near : Nat → Int64) (s_S_sets : Nat → Int64) (s_S_through : Nat → Int64) (s_W_there : Int32) (s_W_size : Int32) (s_W_lineCount : Int32) (s_W_near : Nat → Int64) (s_W_sets : Nat → Int64) (s_W_through : Nat → Int64) (s_p0_findingTimes : Nat → Int32) (s_p0_worlds : Nat → Option Nat) (o_S : Nat) (o_W : Nat) (o_B : Nat) (Q : Int32 → (Int32) → (Int32) → (Int32) → (Int32) → (Int32) → (Int32) → (Nat → Int64) → (Nat → Int64) → (Nat → Int64) → (Nat → Int32) → (Nat → Option Nat) → (Nat) → Prop) : Prop := (Q (-1 : Int32) s_p0_latestFinding s_S_there s_S_kind s_S_tag s_S_size s_S_lineCount s_S_near s_S_sets s_S_through s_p0_findingTimes s_p0_worlds o_S)
def w_X6_derive (x_1 : Int32) (x_2 : Int32) (x_3 : Int32) (s_p0_latestFinding : Int32) (s_S_there : Int32) (s_S_kind : Int32) (s_S_tag : Int32) (s_S_size : Int32) (s_S_lineCount : Int32) (s_S_near : Nat → Int64) (s_S_sets : Nat → Int64) (s_S_through : Nat → Int64) (s_W_there : Int32) (s_W_size : Int32) (s_W_lineCount : Int32) (s_W_near : Nat → Int64) (s_W_sets : Nat → Int64) (s_W_through : Nat → Int64) (s_p0_findingTimes : Nat → Int32) (s_p0_worlds : Nat → Option Nat) (o_S : Nat) (o_W : Nat) (o_B : Nat) (Q : Int32 → (Int32) → (Int32) → (Int32) → (Int32) → (Int32) → (Int32) → (Nat → Int64) → (Nat → Int64) → (Nat → Int64) → (Nat → Int32) → (Nat → Option Nat) → (Nat) → Prop) : Prop := (w_X6_isWorldNumber x_1 (fun (r_1 : Int32) => ((r_1 = 0 → (w_X6_derive_14 s_p0_latestFinding s_S_there s_S_kind s_S_tag s_S_size s_S_lineCount s_S_near s_S_sets s_S_through s_W_there s_W_size s_W_lineCount s_W_near s_W_sets s_W_through s_p0_findingTimes s_p0_worlds o_S o_W o_B Q)) ∧ (¬ r_1 = 0 → (w_X6_isWorldNumber x_3 (fun (r_8 : Int32) => ((¬ r_8 = 0 → (vp_in x_1 6 ∧ s_p0_worlds (x_1).toNatClampNeg = some o_W ∧ ((¬ s_W_there = 0 → (w_X5_hasPoint x_2 s_W_size (fun (r_41 : Int32) => ((¬ r_41 = 0 → (w_X5_orderOfLines s_W_lineCount s_W_sets (fun (r_55 : Int32) => ((r_55 < (2 : Int32) → (w_X6_derive_93 s_p0_latestFinding s_S_there s_S_kind s_S_tag s_S_size s_S_lineCount s_S_near s_S_sets s_S_through s_W_there s_W_size s_W_lineCount s_W_near s_W_sets s_W_through s_p0_findingTimes s_p0_worlds o_S o_W o_B Q)) ∧ (¬ r_55 < (2 : Int32) → (w_X5_orderOfPoints s_W_size s_W_lineCount s_W_through (fun (r_70 : Int32) => ((¬ r_55 = r_70 → (w_X6_derive_93 s_p0_latestFinding s_S_there s_S_kind s_S_tag s_S_size s_S_lineCount s_S_near s_S_sets s_S_through s_W_there s_W_size s_W_lineCount s_W_near s_W_sets s_W_through s_p0_findingTimes s_p0_worlds o_S o_W o_B Q)) ∧ (r_55 = r_70 → (w_X0_firstOf s_W_size s_W_lineCount s_W_sets s_W_through (fun (r_78 : Int32) => ((¬ r_78 = 0 → (w_X6_derive_93 s_p0_latestFinding s_S_there s_S_kind s_S_tag s_S_size s_S_lineCount s_S_near s_S_sets s_S_through s_W_there s_W_size s_W_lineCount s_W_near s_W_sets s_W_through s_p0_findingTimes s_p0_worlds o_S o_W o_B Q)) ∧ (r_78 = 0 → (w_X5_isRegular x_2 s_W_size s_W_lineCount s_W_near s_W_through (fun (r_87 : Int32) => ((¬ r_87 = 0 → (w_X1_makeAbout x_2 s_W_size s_W_lineCount s_W_near s_W_sets s_S_there s_S_kind s_S_tag s_S_size s_S_lineCount s_S_near s_S_sets s_S_through (fun (r_103 : Int32) (u_103_0 : Int32) (u_103_1 : Int32) (u_103_2 : Int32) (u_103_3 : Int32) (u_103_4 : Int32) (u_103_5 : Nat → Int64) (u_103_6 : Nat → Int64) (u_103_7 : Nat → Int64) => ((¬ r_103 = 0 → (w_X6_putSpare x_3 u_103_3 s_p0_worlds o_S o_B (fun (r_114 : Int32) (u_114_0 : Nat → Option Nat) (u_114_1 : Nat) => (Q r_114 s_p0_latestFinding u_103_0 u_103_1 u_103_2 u_103_3 u_103_4 u_103_5 u_103_6 u_103_7 s_p0_findingTimes u_114_0 u_114_1)))) ∧ (r_103 = 0 → (Q (-2 : Int32) s_p0_latestFinding u_103_0 u_103_1 u_103_2 u_103_3 u_103_4 u_103_5 u_103_6 u_103_7 s_p0_findingTimes s_p0_worlds o_S)))))) ∧ (r_87 = 0 → (w_X6_derive_93 s_p0_latestFinding s_S_there s_S_kind s_S_tag s_S_size s_S_lineCount s_S_near s_S_sets s_S_through s_W_there s_W_size s_W_lineCount s_W_near s_W_sets s_W_through s_p0_findingTimes s_p0_worlds o_S o_W o_B Q)))))))))))))))))) ∧ (r_41 = 0 → (w_X6_refused (2 : Int32) s_p0_latestFinding s_p0_findingTimes (fun (r_49 : Int32) (u_49_0 : Int32) (u_49_1 : Nat → Int32) => (Q r_49 u_49_0 s_S_there s_S_kind s_S_tag s_S_size s_S_lineCount s_S_near s_S_sets s_S_through u_49_1 s_p0_worlds o_S)))))))) ∧ (s_W_there = 0 → (w_X6_refused (1 : Int32) s_p0_latestFinding s_p0_findingTimes (fun (r_34 : Int32) (u_34_0 : Int32) (u_34_1 : Nat → Int32) => (Q r_34 u_34_0 s_S_there s_S_kind s_S_tag s_S_size s_S_lineCount s_S_near s_S_sets s_S_through u_34_1 s_p0_worlds o_S))))))) ∧ (r_8 = 0 → (w_X6_derive_14 s_p0_latestFinding s_S_there s_S_kind s_S_tag s_S_size s_S_lineCount s_S_near s_S_sets s_S_through s_W_there s_W_size s_W_lineCount s_W_near s_W_sets s_W_through s_p0_findingTimes s_p0_worlds o_S o_W o_B Q)))))))))
-- X6_derive
theorem iX6_derive_X5 : ∀ w ∈ wsX50, w ∈ wsX6_derive := by decide +kernel
theorem iX6_derive_X6 : ∀ w ∈ wsX60, w ∈ wsX6_derive := by decide +kernel
set_option maxHeartbeats 4000000 in
set_option maxRecDepth 100000 in
theorem k_X6_derive_93 {E : vE} {T : Nat → ClassId} {o_p0 : Nat} {a_p0 : Nat → Nat} {o_S : Nat} {a_S : Nat → Nat} {o_W : Nat} {a_W : Nat → Nat} {o_B : Nat} {s_p0_sentSize : Int32} {s_p0_latestFinding : Int32} {s_p0_latestTries : Int32} {s_p0_latestAsked : Int64} {s_S_there : Int32} {s_S_kind : Int32} {s_S_tag : Int32} {s_S_size : Int32} {s_S_lineCount : Int32} {s_S_near : Nat → Int64} {s_S_sets : Nat → Int64} {s_S_through : Nat → Int64} {s_W_there : Int32} {s_W_kind : Int32} {s_W_tag : Int32} {s_W_size : Int32} {s_W_lineCount : Int32} {s_W_near : Nat → Int64} {s_W_sets : Nat → Int64} {s_W_through : Nat → Int64} {s_p0_findingTimes : Nat → Int32} {s_p0_worlds : Nat → Option Nat} {Q : Int32 → (Int32) → (Int32) → (Int32) → (Int32) → (Int32) → (Int32) → (Nat → Int64) → (Nat → Int64) → (Nat → Int64) → (Nat → Int32) → (Nat → Option Nat) → (Nat) → Prop} (X : vX E cX6_derive 6 RX6 wsX6_derive (vT T) (vr 4 96)) (r : r_X6_derive E T o_p0 a_p0 o_S a_S o_W a_W o_B s_p0_sentSize s_p0_latestTries s_p0_latestAsked s_W_there s_W_kind s_W_tag s_W_size s_W_lineCount s_W_near s_W_sets s_W_through Q) (h : w_X6_derive_93 s_p0_latestFinding s_S_there s_S_kind s_S_tag s_S_size s_S_lineCount s_S_near s_S_sets s_S_through s_W_there s_W_size s_W_lineCount s_W_near s_W_sets s_W_through s_p0_findingTimes s_p0_worlds o_S o_W o_B Q) : V E 0 0 93 [] [] (cl_X6_derive T o_p0 a_p0 o_S a_S o_W a_W o_B s_p0_sentSize s_p0_latestFinding s_p0_latestTries s_p0_latestAsked s_S_there s_S_kind s_S_tag s_S_size s_S_lineCount s_S_near s_S_sets s_S_through s_W_there s_W_kind s_W_tag s_W_size s_W_lineCount s_W_near s_W_sets s_W_through s_p0_findingTimes s_p0_worlds o_S) := by
  unfold w_X6_derive_93 at h
  refine v_bipush X dX6_derive_93 (v := (-4 : Int32)) (by decide) ?_
  exact r _ _ _ (s_p0_latestFinding, s_S_there, s_S_kind, s_S_tag, s_S_size, s_S_lineCount, s_S_near, s_S_sets, s_S_through, s_p0_findingTimes, s_p0_worlds, o_S) _ dX6_derive_95 h rfl
set_option maxHeartbeats 4000000 in
set_option maxRecDepth 100000 in
theorem k_X6_derive_14 {E : vE} {T : Nat → ClassId} {o_p0 : Nat} {a_p0 : Nat → Nat} {o_S : Nat} {a_S : Nat → Nat} {o_W : Nat} {a_W : Nat → Nat} {o_B : Nat} {s_p0_sentSize : Int32} {s_p0_latestFinding : Int32} {s_p0_latestTries : Int32} {s_p0_latestAsked : Int64} {s_S_there : Int32} {s_S_kind : Int32} {s_S_tag : Int32} {s_S_size : Int32} {s_S_lineCount : Int32} {s_S_near : Nat → Int64} {s_S_sets : Nat → Int64} {s_S_through : Nat → Int64} {s_W_there : Int32} {s_W_kind : Int32} {s_W_tag : Int32} {s_W_size : Int32} {s_W_lineCount : Int32} {s_W_near : Nat → Int64} {s_W_sets : Nat → Int64} {s_W_through : Nat → Int64} {s_p0_findingTimes : Nat → Int32} {s_p0_worlds : Nat → Option Nat} {Q : Int32 → (Int32) → (Int32) → (Int32) → (Int32) → (Int32) → (Int32) → (Nat → Int64) → (Nat → Int64) → (Nat → Int64) → (Nat → Int32) → (Nat → Option Nat) → (Nat) → Prop} (X : vX E cX6_derive 6 RX6 wsX6_derive (vT T) (vr 4 96)) (r : r_X6_derive E T o_p0 a_p0 o_S a_S o_W a_W o_B s_p0_sentSize s_p0_latestTries s_p0_latestAsked s_W_there s_W_kind s_W_tag s_W_size s_W_lineCount s_W_near s_W_sets s_W_through Q) (h : w_X6_derive_14 s_p0_latestFinding s_S_there s_S_kind s_S_tag s_S_size s_S_lineCount s_S_near s_S_sets s_S_through s_W_there s_W_size s_W_lineCount s_W_near s_W_sets s_W_through s_p0_findingTimes s_p0_worlds o_S o_W o_B Q) : V E 0 0 14 [] [] (cl_X6_derive T o_p0 a_p0 o_S a_S o_W a_W o_B s_p0_sentSize s_p0_latestFinding s_p0_latestTries s_p0_latestAsked s_S_there s_S_kind s_S_tag s_S_size s_S_lineCount s_S_near s_S_sets s_S_through s_W_there s_W_kind s_W_tag s_W_size s_W_lineCount s_W_near s_W_sets s_W_through s_p0_findingTimes s_p0_worlds o_S) := by
  unfold w_X6_derive_14 at h
  refine v_iconst X dX6_derive_14 (v := (-1 : Int32)) (by decide) ?_
  exact r _ _ _ (s_p0_latestFinding, s_S_there, s_S_kind, s_S_tag, s_S_size, s_S_lineCount, s_S_near, s_S_sets, s_S_through, s_p0_findingTimes, s_p0_worlds, o_S) _ dX6_derive_15 h rfl
set_option maxHeartbeats 4000000 in
set_option maxRecDepth 100000 in
theorem c_X6_derive {l : Launch} {D : va_G} {T : Nat → ClassId} {o_p0 : Nat} {a_p0 : Nat → Nat} {o_S : Nat} {a_S : Nat → Nat} {o_W : Nat} {a_W : Nat → Nat} {o_B : Nat} {s_p0_sentSize : Int32} {s_p0_latestFinding : Int32} {s_p0_latestTries : Int32} {s_p0_latestAsked : Int64} {s_S_there : Int32} {s_S_kind : Int32} {s_S_tag : Int32} {s_S_size : Int32} {s_S_lineCount : Int32} {s_S_near : Nat → Int64} {s_S_sets : Nat → Int64} {s_S_through : Nat → Int64} {s_W_there : Int32} {s_W_kind : Int32} {s_W_tag : Int32} {s_W_size : Int32} {s_W_lineCount : Int32} {s_W_near : Nat → Int64} {s_W_sets : Nat → Int64} {s_W_through : Nat → Int64} {s_p0_findingTimes : Nat → Int32} {s_p0_worlds : Nat → Option Nat} {x_1 : Int32} {x_2 : Int32} {x_3 : Int32} {Q : Int32 → (Int32) → (Int32) → (Int32) → (Int32) → (Int32) → (Int32) → (Nat → Int64) → (Nat → Int64) → (Nat → Int64) → (Nat → Int32) → (Nat → Option Nat) → (Nat) → Prop} (h : w_X6_derive x_1 x_2 x_3 s_p0_latestFinding s_S_there s_S_kind s_S_tag s_S_size s_S_lineCount s_S_near s_S_sets s_S_through s_W_there s_W_size s_W_lineCount s_W_near s_W_sets s_W_through s_p0_findingTimes s_p0_worlds o_S o_W o_B Q) : vCi l D (vT T) yX6_derive wsX6_derive (vr 4 96) [.ref o_p0, .int x_1, .int x_2, .int x_3] (cl_X6_derive T o_p0 a_p0 o_S a_S o_W a_W o_B s_p0_sentSize s_p0_latestFinding s_p0_latestTries s_p0_latestAsked s_S_there s_S_kind s_S_tag s_S_size s_S_lineCount s_S_near s_S_sets s_S_through s_W_there s_W_kind s_W_tag s_W_size s_W_lineCount s_W_near s_W_sets s_W_through s_p0_findingTimes s_p0_worlds o_S) (fun v (u : (Int32) × (Int32) × (Int32) × (Int32) × (Int32) × (Int32) × (Nat → Int64) × (Nat → Int64) × (Nat → Int64) × (Nat → Int32) × (Nat → Option Nat) × (Nat)) => Q v u.1 u.2.1 u.2.2.1 u.2.2.2.1 u.2.2.2.2.1 u.2.2.2.2.2.1 u.2.2.2.2.2.2.1 u.2.2.2.2.2.2.2.1 u.2.2.2.2.2.2.2.2.1 u.2.2.2.2.2.2.2.2.2.1 u.2.2.2.2.2.2.2.2.2.2.1 u.2.2.2.2.2.2.2.2.2.2.2) (fun (u : (Int32) × (Int32) × (Int32) × (Int32) × (Int32) × (Int32) × (Nat → Int64) × (Nat → Int64) × (Nat → Int64) × (Nat → Int32) × (Nat → Option Nat) × (Nat)) => (cl_X6_derive T o_p0 a_p0 o_S a_S o_W a_W o_B s_p0_sentSize u.1 s_p0_latestTries s_p0_latestAsked u.2.1 u.2.2.1 u.2.2.2.1 u.2.2.2.2.1 u.2.2.2.2.2.1 u.2.2.2.2.2.2.1 u.2.2.2.2.2.2.2.1 u.2.2.2.2.2.2.2.2.1 s_W_there s_W_kind s_W_tag s_W_size s_W_lineCount s_W_near s_W_sets s_W_through u.2.2.2.2.2.2.2.2.2.1 u.2.2.2.2.2.2.2.2.2.2.1 u.2.2.2.2.2.2.2.2.2.2.2)) := by
  refine vC_i (cc := cX6_derive) (nL := 6) (by decide +kernel) rfl ⟨rfl, rfl⟩ (Nat.le_of_ble_eq_true rfl) rfl ?_
  intro E el eD X r
  unfold w_X6_derive at h
  refine v_iload_n X 1 dX6_derive_0 rfl rfl ?_
  refine v_callSi0 X (As := [.int x_1]) (rest := []) 1 (c_X6_isWorldNumber (l := vl E) (D := vD E) (T := T) (x_0 := x_1) h) gX6_derive_X6_isWorldNumber rfl rfl (by decide +kernel) ⟨Nat.zero_le _, Nat.zero_le _⟩ ⟨rfl, rfl, by decide, by decide⟩ (Nat.le_of_ble_eq_true rfl) rfl dX6_derive_1 (fun r_1 h => ?_)
  refine v_if_eq X (tgt := 14) dX6_derive_4 (by decide) (fun c_4 => ?_) (fun c_4 => ?_)
  · replace h := h.1 c_4
    refine v_lv (lv' := []) [] rfl ?_
    exact k_X6_derive_14 X r h
  · replace h := h.2 c_4
    refine v_iload_n X 3 dX6_derive_7 rfl rfl ?_
    refine v_callSi0 X (As := [.int x_3]) (rest := []) 1 (c_X6_isWorldNumber (l := vl E) (D := vD E) (T := T) (x_0 := x_3) h) gX6_derive_X6_isWorldNumber rfl rfl (by decide +kernel) ⟨Nat.zero_le _, Nat.zero_le _⟩ ⟨rfl, rfl, by decide, by decide⟩ (Nat.le_of_ble_eq_true rfl) rfl dX6_derive_8 (fun r_8 h => ?_)
    refine v_if_ne X (tgt := 16) dX6_derive_11 (by decide) (fun c_11 => ?_) (fun c_11 => ?_)
    · replace h := h.1 c_11
      refine v_aload_n X 0 dX6_derive_16 rfl rfl ?_
      refine v_get X 0 0 (F := TX6) (N := 13) iX6_derive_X6 rfl rfl (by decide) (List.mem_of_getElem? (i := 1) rfl) rfl rfl dX6_derive_17 ?_
      refine v_iload_n X 1 dX6_derive_20 rfl rfl ?_
      refine v_aald X 10 2 rfl rfl h.1 h.2.1 dX6_derive_21 ?_
      replace h := h.2.2
      refine v_astore X (lv' := [(4, .ref o_W), (0, .ref o_p0), (1, .int x_1), (2, .int x_2), (3, .int x_3)]) dX6_derive_22 (by decide) rfl ?_
      refine v_aload X 0 dX6_derive_24 rfl ?_
      refine v_getN X 5 3 (F := TX5) (N := 8) iX6_derive_X5 rfl rfl (by decide) (List.mem_of_getElem? (i := 23) rfl) rfl rfl dX6_derive_26 ?_
      refine v_if_ne X (tgt := 38) dX6_derive_29 (by decide) (fun c_29 => ?_) (fun c_29 => ?_)
      · replace h := h.1 c_29
        refine v_aload X 0 dX6_derive_38 rfl ?_
        refine v_iload_n X 3 dX6_derive_40 rfl rfl ?_
        refine v_callVi X (As := [.int x_2]) (rest := []) 1 0 (c_X5_hasPoint (l := vl E) (D := vD E) (T := T) (o_p0 := o_W) (a_p0 := a_W) (s_p0_there := s_W_there) (s_p0_kind := s_W_kind) (s_p0_tag := s_W_tag) (s_p0_size := s_W_size) (s_p0_lineCount := s_W_lineCount) (x_1 := x_2) h) gX6_derive_X5_hasPoint rfl rfl (by decide +kernel) ⟨Nat.zero_le _, Nat.zero_le _⟩ ⟨rfl, rfl, by decide, by decide⟩ (Nat.le_of_ble_eq_true rfl) rfl rfl (wr := [vO o_p0 3 [.ref (a_p0 0), .ref (a_p0 1), .ref (a_p0 2), .ref (a_p0 3), .ref (a_p0 4), .ref (a_p0 5), .ref (a_p0 6), .ref (a_p0 7), .ref o_S, .int s_p0_sentSize, .int s_p0_latestFinding, .int s_p0_latestTries, .long s_p0_latestAsked], vO o_S 2 [.ref (a_S 0), .ref (a_S 1), .ref (a_S 2), .int s_S_there, .int s_S_kind, .int s_S_tag, .int s_S_size, .int s_S_lineCount], vJ T (a_S 2) 45 s_S_near, vJ T (a_S 0) 45 s_S_sets, vJ T (a_S 1) 45 s_S_through, vJ T (a_W 2) 45 s_W_near, vJ T (a_W 0) 45 s_W_sets, vJ T (a_W 1) 45 s_W_through, vI T (a_p0 3) 6 s_p0_findingTimes, vR T 2 (a_p0 0) 6 s_p0_worlds]) [5] [0, 1, 2, 3, 4, 6, 7, 8, 9, 10] rfl rfl rfl rfl (by decide) rfl dX6_derive_41 (fun r_41 u h => ?_)
        refine v_ws (ws' := (cl_X6_derive T o_p0 a_p0 o_S a_S o_W a_W o_B s_p0_sentSize s_p0_latestFinding s_p0_latestTries s_p0_latestAsked s_S_there s_S_kind s_S_tag s_S_size s_S_lineCount s_S_near s_S_sets s_S_through s_W_there s_W_kind s_W_tag s_W_size s_W_lineCount s_W_near s_W_sets s_W_through s_p0_findingTimes s_p0_worlds o_S)) [0, 1, 2, 3, 4, 10, 5, 6, 7, 8, 9] rfl rfl ?_
        refine v_if_ne X (tgt := 53) dX6_derive_44 (by decide) (fun c_44 => ?_) (fun c_44 => ?_)
        · replace h := h.1 c_44
          refine v_aload X 0 dX6_derive_53 rfl ?_
          refine v_callVi X (As := []) (rest := []) 0 0 (c_X5_orderOfLines (l := vl E) (D := vD E) (T := T) (o_p0 := o_W) (a_p0 := a_W) (s_p0_there := s_W_there) (s_p0_kind := s_W_kind) (s_p0_tag := s_W_tag) (s_p0_size := s_W_size) (s_p0_lineCount := s_W_lineCount) (s_p0_sets := s_W_sets) h) gX6_derive_X5_orderOfLines rfl rfl (by decide +kernel) ⟨Nat.zero_le _, Nat.zero_le _⟩ ⟨rfl, rfl, by decide, by decide⟩ (Nat.le_of_ble_eq_true rfl) rfl rfl (wr := [vO o_p0 3 [.ref (a_p0 0), .ref (a_p0 1), .ref (a_p0 2), .ref (a_p0 3), .ref (a_p0 4), .ref (a_p0 5), .ref (a_p0 6), .ref (a_p0 7), .ref o_S, .int s_p0_sentSize, .int s_p0_latestFinding, .int s_p0_latestTries, .long s_p0_latestAsked], vO o_S 2 [.ref (a_S 0), .ref (a_S 1), .ref (a_S 2), .int s_S_there, .int s_S_kind, .int s_S_tag, .int s_S_size, .int s_S_lineCount], vJ T (a_S 2) 45 s_S_near, vJ T (a_S 0) 45 s_S_sets, vJ T (a_S 1) 45 s_S_through, vJ T (a_W 2) 45 s_W_near, vJ T (a_W 1) 45 s_W_through, vI T (a_p0 3) 6 s_p0_findingTimes, vR T 2 (a_p0 0) 6 s_p0_worlds]) [5, 7] [0, 1, 2, 3, 4, 6, 8, 9, 10] rfl rfl rfl rfl (by decide) rfl dX6_derive_55 (fun r_55 u h => ?_)
          refine v_ws (ws' := (cl_X6_derive T o_p0 a_p0 o_S a_S o_W a_W o_B s_p0_sentSize s_p0_latestFinding s_p0_latestTries s_p0_latestAsked s_S_there s_S_kind s_S_tag s_S_size s_S_lineCount s_S_near s_S_sets s_S_through s_W_there s_W_kind s_W_tag s_W_size s_W_lineCount s_W_near s_W_sets s_W_through s_p0_findingTimes s_p0_worlds o_S)) [0, 1, 2, 3, 4, 9, 5, 10, 6, 7, 8] rfl rfl ?_
          refine v_istore X (lv' := [(5, .int r_55), (4, .ref o_W), (0, .ref o_p0), (1, .int x_1), (2, .int x_2), (3, .int x_3)]) dX6_derive_58 (by decide) rfl ?_
          refine v_iload X 0 dX6_derive_60 rfl ?_
          refine v_iconst X dX6_derive_62 (v := (2 : Int32)) (by decide) ?_
          refine v_icmp_lt X (tgt := 93) dX6_derive_63 (by decide) (fun c_63 => ?_) (fun c_63 => ?_)
          · replace h := h.1 c_63
            refine v_lv (lv' := []) [] rfl ?_
            exact k_X6_derive_93 X r h
          · replace h := h.2 c_63
            refine v_iload X 0 dX6_derive_66 rfl ?_
            refine v_aload X 1 dX6_derive_68 rfl ?_
            refine v_callVi X (As := []) (rest := [.int r_55]) 0 0 (c_X5_orderOfPoints (l := vl E) (D := vD E) (T := T) (o_p0 := o_W) (a_p0 := a_W) (s_p0_there := s_W_there) (s_p0_kind := s_W_kind) (s_p0_tag := s_W_tag) (s_p0_size := s_W_size) (s_p0_lineCount := s_W_lineCount) (s_p0_through := s_W_through) h) gX6_derive_X5_orderOfPoints rfl rfl (by decide +kernel) ⟨Nat.zero_le _, Nat.zero_le _⟩ ⟨rfl, rfl, by decide, by decide⟩ (Nat.le_of_ble_eq_true rfl) rfl rfl (wr := [vO o_p0 3 [.ref (a_p0 0), .ref (a_p0 1), .ref (a_p0 2), .ref (a_p0 3), .ref (a_p0 4), .ref (a_p0 5), .ref (a_p0 6), .ref (a_p0 7), .ref o_S, .int s_p0_sentSize, .int s_p0_latestFinding, .int s_p0_latestTries, .long s_p0_latestAsked], vO o_S 2 [.ref (a_S 0), .ref (a_S 1), .ref (a_S 2), .int s_S_there, .int s_S_kind, .int s_S_tag, .int s_S_size, .int s_S_lineCount], vJ T (a_S 2) 45 s_S_near, vJ T (a_S 0) 45 s_S_sets, vJ T (a_S 1) 45 s_S_through, vJ T (a_W 2) 45 s_W_near, vJ T (a_W 0) 45 s_W_sets, vI T (a_p0 3) 6 s_p0_findingTimes, vR T 2 (a_p0 0) 6 s_p0_worlds]) [5, 8] [0, 1, 2, 3, 4, 6, 7, 9, 10] rfl rfl rfl rfl (by decide) rfl dX6_derive_70 (fun r_70 u h => ?_)
            refine v_ws (ws' := (cl_X6_derive T o_p0 a_p0 o_S a_S o_W a_W o_B s_p0_sentSize s_p0_latestFinding s_p0_latestTries s_p0_latestAsked s_S_there s_S_kind s_S_tag s_S_size s_S_lineCount s_S_near s_S_sets s_S_through s_W_there s_W_kind s_W_tag s_W_size s_W_lineCount s_W_near s_W_sets s_W_through s_p0_findingTimes s_p0_worlds o_S)) [0, 1, 2, 3, 4, 9, 5, 6, 10, 7, 8] rfl rfl ?_
            refine v_icmp_ne X (tgt := 93) dX6_derive_73 (by decide) (fun c_73 => ?_) (fun c_73 => ?_)
            · replace h := h.1 c_73
              refine v_lv (lv' := []) [] rfl ?_
              exact k_X6_derive_93 X r h
            · replace h := h.2 c_73
              refine v_aload X 1 dX6_derive_76 rfl ?_
              refine v_callSi X (As := [.ref o_W]) (rest := []) 1 (c_X0_firstOf (l := vl E) (D := vD E) (T := T) (o_p0 := o_W) (a_p0 := a_W) (s_p0_there := s_W_there) (s_p0_kind := s_W_kind) (s_p0_tag := s_W_tag) (s_p0_size := s_W_size) (s_p0_lineCount := s_W_lineCount) (s_p0_sets := s_W_sets) (s_p0_through := s_W_through) h) gX6_derive_X0_firstOf rfl rfl (by decide +kernel) ⟨Nat.zero_le _, Nat.zero_le _⟩ ⟨rfl, rfl, by decide, by decide⟩ (Nat.le_of_ble_eq_true rfl) (wr := [vO o_p0 3 [.ref (a_p0 0), .ref (a_p0 1), .ref (a_p0 2), .ref (a_p0 3), .ref (a_p0 4), .ref (a_p0 5), .ref (a_p0 6), .ref (a_p0 7), .ref o_S, .int s_p0_sentSize, .int s_p0_latestFinding, .int s_p0_latestTries, .long s_p0_latestAsked], vO o_S 2 [.ref (a_S 0), .ref (a_S 1), .ref (a_S 2), .int s_S_there, .int s_S_kind, .int s_S_tag, .int s_S_size, .int s_S_lineCount], vJ T (a_S 2) 45 s_S_near, vJ T (a_S 0) 45 s_S_sets, vJ T (a_S 1) 45 s_S_through, vJ T (a_W 2) 45 s_W_near, vI T (a_p0 3) 6 s_p0_findingTimes, vR T 2 (a_p0 0) 6 s_p0_worlds]) [5, 7, 8] [0, 1, 2, 3, 4, 6, 9, 10] rfl rfl rfl rfl (by decide) rfl dX6_derive_78 (fun r_78 u h => ?_)
              refine v_ws (ws' := (cl_X6_derive T o_p0 a_p0 o_S a_S o_W a_W o_B s_p0_sentSize s_p0_latestFinding s_p0_latestTries s_p0_latestAsked s_S_there s_S_kind s_S_tag s_S_size s_S_lineCount s_S_near s_S_sets s_S_through s_W_there s_W_kind s_W_tag s_W_size s_W_lineCount s_W_near s_W_sets s_W_through s_p0_findingTimes s_p0_worlds o_S)) [0, 1, 2, 3, 4, 8, 5, 9, 10, 6, 7] rfl rfl ?_
              refine v_if_ne X (tgt := 93) dX6_derive_81 (by decide) (fun c_81 => ?_) (fun c_81 => ?_)
              · replace h := h.1 c_81
                refine v_lv (lv' := []) [] rfl ?_
                exact k_X6_derive_93 X r h
              · replace h := h.2 c_81
                refine v_aload X 1 dX6_derive_84 rfl ?_
                refine v_iload_n X 4 dX6_derive_86 rfl rfl ?_
                refine v_callVi X (As := [.int x_2]) (rest := []) 1 0 (c_X5_isRegular (l := vl E) (D := vD E) (T := T) (o_p0 := o_W) (a_p0 := a_W) (s_p0_there := s_W_there) (s_p0_kind := s_W_kind) (s_p0_tag := s_W_tag) (s_p0_size := s_W_size) (s_p0_lineCount := s_W_lineCount) (s_p0_near := s_W_near) (s_p0_through := s_W_through) (x_1 := x_2) h) gX6_derive_X5_isRegular rfl rfl (by decide +kernel) ⟨Nat.zero_le _, Nat.zero_le _⟩ ⟨rfl, rfl, by decide, by decide⟩ (Nat.le_of_ble_eq_true rfl) rfl rfl (wr := [vO o_p0 3 [.ref (a_p0 0), .ref (a_p0 1), .ref (a_p0 2), .ref (a_p0 3), .ref (a_p0 4), .ref (a_p0 5), .ref (a_p0 6), .ref (a_p0 7), .ref o_S, .int s_p0_sentSize, .int s_p0_latestFinding, .int s_p0_latestTries, .long s_p0_latestAsked], vO o_S 2 [.ref (a_S 0), .ref (a_S 1), .ref (a_S 2), .int s_S_there, .int s_S_kind, .int s_S_tag, .int s_S_size, .int s_S_lineCount], vJ T (a_S 2) 45 s_S_near, vJ T (a_S 0) 45 s_S_sets, vJ T (a_S 1) 45 s_S_through, vJ T (a_W 0) 45 s_W_sets, vI T (a_p0 3) 6 s_p0_findingTimes, vR T 2 (a_p0 0) 6 s_p0_worlds]) [5, 6, 8] [0, 1, 2, 3, 4, 7, 9, 10] rfl rfl rfl rfl (by decide) rfl dX6_derive_87 (fun r_87 u h => ?_)
                refine v_ws (ws' := (cl_X6_derive T o_p0 a_p0 o_S a_S o_W a_W o_B s_p0_sentSize s_p0_latestFinding s_p0_latestTries s_p0_latestAsked s_S_there s_S_kind s_S_tag s_S_size s_S_lineCount s_S_near s_S_sets s_S_through s_W_there s_W_kind s_W_tag s_W_size s_W_lineCount s_W_near s_W_sets s_W_through s_p0_findingTimes s_p0_worlds o_S)) [0, 1, 2, 3, 4, 8, 9, 5, 10, 6, 7] rfl rfl ?_
                refine v_if_ne X (tgt := 96) dX6_derive_90 (by decide) (fun c_90 => ?_) (fun c_90 => ?_)
                · replace h := h.1 c_90
                  refine v_aload X 1 dX6_derive_96 rfl ?_
                  refine v_iload_n X 4 dX6_derive_98 rfl rfl ?_
                  refine v_aload_n X 2 dX6_derive_99 rfl rfl ?_
                  refine v_get X 0 8 (F := TX6) (N := 13) iX6_derive_X6 rfl rfl (by decide) (List.mem_of_getElem? (i := 2) rfl) rfl rfl dX6_derive_100 ?_
                  refine v_callSi X (As := [.ref o_W, .int x_2, .ref o_S]) (rest := []) 3 (c_X1_makeAbout (l := vl E) (D := vD E) (T := T) (o_p0 := o_W) (a_p0 := a_W) (o_p2 := o_S) (a_p2 := a_S) (s_p0_there := s_W_there) (s_p0_kind := s_W_kind) (s_p0_tag := s_W_tag) (s_p0_size := s_W_size) (s_p0_lineCount := s_W_lineCount) (s_p0_near := s_W_near) (s_p0_sets := s_W_sets) (s_p2_there := s_S_there) (s_p2_kind := s_S_kind) (s_p2_tag := s_S_tag) (s_p2_size := s_S_size) (s_p2_lineCount := s_S_lineCount) (s_p2_near := s_S_near) (s_p2_sets := s_S_sets) (s_p2_through := s_S_through) (x_1 := x_2) h) gX6_derive_X1_makeAbout rfl rfl (by decide +kernel) ⟨Nat.zero_le _, Nat.zero_le _⟩ ⟨rfl, rfl, by decide, by decide⟩ (Nat.le_of_ble_eq_true rfl) (wr := [vO o_p0 3 [.ref (a_p0 0), .ref (a_p0 1), .ref (a_p0 2), .ref (a_p0 3), .ref (a_p0 4), .ref (a_p0 5), .ref (a_p0 6), .ref (a_p0 7), .ref o_S, .int s_p0_sentSize, .int s_p0_latestFinding, .int s_p0_latestTries, .long s_p0_latestAsked], vJ T (a_W 1) 45 s_W_through, vI T (a_p0 3) 6 s_p0_findingTimes, vR T 2 (a_p0 0) 6 s_p0_worlds]) [5, 6, 7, 1, 2, 3, 4] [0, 8, 9, 10] rfl rfl rfl rfl (by decide) rfl dX6_derive_103 (fun r_103 u h => ?_)
                  obtain ⟨u_103_0, u_103_1, u_103_2, u_103_3, u_103_4, u_103_5, u_103_6, u_103_7⟩ := u
                  dsimp only at h
                  refine v_ws (ws' := (cl_X6_derive T o_p0 a_p0 o_S a_S o_W a_W o_B s_p0_sentSize s_p0_latestFinding s_p0_latestTries s_p0_latestAsked u_103_0 u_103_1 u_103_2 u_103_3 u_103_4 u_103_5 u_103_6 u_103_7 s_W_there s_W_kind s_W_tag s_W_size s_W_lineCount s_W_near s_W_sets s_W_through s_p0_findingTimes s_p0_worlds o_S)) [0, 7, 8, 9, 10, 4, 5, 6, 1, 2, 3] rfl rfl ?_
                  refine v_if_ne X (tgt := 112) dX6_derive_106 (by decide) (fun c_106 => ?_) (fun c_106 => ?_)
                  · replace h := h.1 c_106
                    refine v_aload_n X 2 dX6_derive_112 rfl rfl ?_
                    refine v_iload_n X 5 dX6_derive_113 rfl rfl ?_
                    refine v_callVi X (As := [.int x_3]) (rest := []) 1 0 (c_X6_putSpare (l := vl E) (D := vD E) (T := T) (o_p0 := o_p0) (a_p0 := a_p0) (o_S := o_S) (a_S := a_S) (o_B := o_B) (s_p0_sentSize := s_p0_sentSize) (s_p0_latestFinding := s_p0_latestFinding) (s_p0_latestTries := s_p0_latestTries) (s_p0_latestAsked := s_p0_latestAsked) (s_S_there := u_103_0) (s_S_kind := u_103_1) (s_S_tag := u_103_2) (s_S_size := u_103_3) (s_S_lineCount := u_103_4) (s_p0_worlds := s_p0_worlds) (x_1 := x_3) h) gX6_derive_X6_putSpare rfl rfl (by decide +kernel) ⟨Nat.zero_le _, Nat.zero_le _⟩ ⟨rfl, rfl, by decide, by decide⟩ (Nat.le_of_ble_eq_true rfl) rfl rfl (wr := [vJ T (a_S 2) 45 u_103_5, vJ T (a_S 0) 45 u_103_6, vJ T (a_S 1) 45 u_103_7, vO o_W 2 [.ref (a_W 0), .ref (a_W 1), .ref (a_W 2), .int s_W_there, .int s_W_kind, .int s_W_tag, .int s_W_size, .int s_W_lineCount], vJ T (a_W 2) 45 s_W_near, vJ T (a_W 0) 45 s_W_sets, vJ T (a_W 1) 45 s_W_through, vI T (a_p0 3) 6 s_p0_findingTimes]) [0, 1, 10] [2, 3, 4, 5, 6, 7, 8, 9] rfl rfl rfl rfl (by decide) rfl dX6_derive_114 (fun r_114 u h => ?_)
                    obtain ⟨u_114_0, u_114_1⟩ := u
                    dsimp only at h
                    refine v_ws (ws' := (cl_X6_derive T o_p0 a_p0 o_S a_S o_W a_W o_B s_p0_sentSize s_p0_latestFinding s_p0_latestTries s_p0_latestAsked u_103_0 u_103_1 u_103_2 u_103_3 u_103_4 u_103_5 u_103_6 u_103_7 s_W_there s_W_kind s_W_tag s_W_size s_W_lineCount s_W_near s_W_sets s_W_through s_p0_findingTimes u_114_0 u_114_1)) [8, 9, 0, 1, 2, 3, 4, 5, 6, 7, 10] rfl rfl ?_
                    exact r _ _ _ (s_p0_latestFinding, u_103_0, u_103_1, u_103_2, u_103_3, u_103_4, u_103_5, u_103_6, u_103_7, s_p0_findingTimes, u_114_0, u_114_1) _ dX6_derive_117 h rfl
                  · replace h := h.2 c_106
                    refine v_bipush X dX6_derive_109 (v := (-2 : Int32)) (by decide) ?_
                    exact r _ _ _ (s_p0_latestFinding, u_103_0, u_103_1, u_103_2, u_103_3, u_103_4, u_103_5, u_103_6, u_103_7, s_p0_findingTimes, s_p0_worlds, o_S) _ dX6_derive_111 h rfl
                · replace h := h.2 c_90
                  refine v_lv (lv' := []) [] rfl ?_
                  exact k_X6_derive_93 X r h
        · replace h := h.2 c_44
          refine v_aload_n X 1 dX6_derive_47 rfl rfl ?_
          refine v_iconst X dX6_derive_48 (v := (2 : Int32)) (by decide) ?_
          refine v_callVi X (As := [.int (2 : Int32)]) (rest := []) 1 0 (c_X6_refused (l := vl E) (D := vD E) (T := T) (o_p0 := o_p0) (a_p0 := a_p0) (o_S := o_S) (s_p0_sentSize := s_p0_sentSize) (s_p0_latestFinding := s_p0_latestFinding) (s_p0_latestTries := s_p0_latestTries) (s_p0_latestAsked := s_p0_latestAsked) (s_p0_findingTimes := s_p0_findingTimes) (x_1 := (2 : Int32)) h) gX6_derive_X6_refused rfl rfl (by decide +kernel) ⟨Nat.zero_le _, Nat.zero_le _⟩ ⟨rfl, rfl, by decide, by decide⟩ (Nat.le_of_ble_eq_true rfl) rfl rfl (wr := [vO o_S 2 [.ref (a_S 0), .ref (a_S 1), .ref (a_S 2), .int s_S_there, .int s_S_kind, .int s_S_tag, .int s_S_size, .int s_S_lineCount], vJ T (a_S 2) 45 s_S_near, vJ T (a_S 0) 45 s_S_sets, vJ T (a_S 1) 45 s_S_through, vO o_W 2 [.ref (a_W 0), .ref (a_W 1), .ref (a_W 2), .int s_W_there, .int s_W_kind, .int s_W_tag, .int s_W_size, .int s_W_lineCount], vJ T (a_W 2) 45 s_W_near, vJ T (a_W 0) 45 s_W_sets, vJ T (a_W 1) 45 s_W_through, vR T 2 (a_p0 0) 6 s_p0_worlds]) [0, 9] [1, 2, 3, 4, 5, 6, 7, 8, 10] rfl rfl rfl rfl (by decide) rfl dX6_derive_49 (fun r_49 u h => ?_)
          obtain ⟨u_49_0, u_49_1⟩ := u
          dsimp only at h
          refine v_ws (ws' := (cl_X6_derive T o_p0 a_p0 o_S a_S o_W a_W o_B s_p0_sentSize u_49_0 s_p0_latestTries s_p0_latestAsked s_S_there s_S_kind s_S_tag s_S_size s_S_lineCount s_S_near s_S_sets s_S_through s_W_there s_W_kind s_W_tag s_W_size s_W_lineCount s_W_near s_W_sets s_W_through u_49_1 s_p0_worlds o_S)) [9, 0, 1, 2, 3, 4, 5, 6, 7, 10, 8] rfl rfl ?_
          exact r _ _ _ (u_49_0, s_S_there, s_S_kind, s_S_tag, s_S_size, s_S_lineCount, s_S_near, s_S_sets, s_S_through, u_49_1, s_p0_worlds, o_S) _ dX6_derive_52 h rfl
      · replace h := h.2 c_29
        refine v_aload_n X 1 dX6_derive_32 rfl rfl ?_
        refine v_iconst X dX6_derive_33 (v := (1 : Int32)) (by decide) ?_
        refine v_callVi X (As := [.int (1 : Int32)]) (rest := []) 1 0 (c_X6_refused (l := vl E) (D := vD E) (T := T) (o_p0 := o_p0) (a_p0 := a_p0) (o_S := o_S) (s_p0_sentSize := s_p0_sentSize) (s_p0_latestFinding := s_p0_latestFinding) (s_p0_latestTries := s_p0_latestTries) (s_p0_latestAsked := s_p0_latestAsked) (s_p0_findingTimes := s_p0_findingTimes) (x_1 := (1 : Int32)) h) gX6_derive_X6_refused rfl rfl (by decide +kernel) ⟨Nat.zero_le _, Nat.zero_le _⟩ ⟨rfl, rfl, by decide, by decide⟩ (Nat.le_of_ble_eq_true rfl) rfl rfl (wr := [vO o_S 2 [.ref (a_S 0), .ref (a_S 1), .ref (a_S 2), .int s_S_there, .int s_S_kind, .int s_S_tag, .int s_S_size, .int s_S_lineCount], vJ T (a_S 2) 45 s_S_near, vJ T (a_S 0) 45 s_S_sets, vJ T (a_S 1) 45 s_S_through, vO o_W 2 [.ref (a_W 0), .ref (a_W 1), .ref (a_W 2), .int s_W_there, .int s_W_kind, .int s_W_tag, .int s_W_size, .int s_W_lineCount], vJ T (a_W 2) 45 s_W_near, vJ T (a_W 0) 45 s_W_sets, vJ T (a_W 1) 45 s_W_through, vR T 2 (a_p0 0) 6 s_p0_worlds]) [0, 9] [1, 2, 3, 4, 5, 6, 7, 8, 10] rfl rfl rfl rfl (by decide) rfl dX6_derive_34 (fun r_34 u h => ?_)
        obtain ⟨u_34_0, u_34_1⟩ := u
        dsimp only at h
        refine v_ws (ws' := (cl_X6_derive T o_p0 a_p0 o_S a_S o_W a_W o_B s_p0_sentSize u_34_0 s_p0_latestTries s_p0_latestAsked s_S_there s_S_kind s_S_tag s_S_size s_S_lineCount s_S_near s_S_sets s_S_through s_W_there s_W_kind s_W_tag s_W_size s_W_lineCount s_W_near s_W_sets s_W_through u_34_1 s_p0_worlds o_S)) [9, 0, 1, 2, 3, 4, 5, 6, 7, 10, 8] rfl rfl ?_
        exact r _ _ _ (u_34_0, s_S_there, s_S_kind, s_S_tag, s_S_size, s_S_lineCount, s_S_near, s_S_sets, s_S_through, u_34_1, s_p0_worlds, o_S) _ dX6_derive_37 h rfl
    · replace h := h.2 c_11
      refine v_lv (lv' := []) [] rfl ?_
      exact k_X6_derive_14 X r h
-- X6_part
abbrev cl_X6_part (T : Nat → ClassId) (o_p0 : Nat) (a_p0 : Nat → Nat) (o_S : Nat) (a_S : Nat → Nat) (o_W : Nat) (a_W : Nat → Nat) (o_B : Nat) (s_p0_sentSize : Int32) (s_p0_latestFinding : Int32) (s_p0_latestTries : Int32) (s_p0_latestAsked : Int64) (s_S_there : Int32) (s_S_kind : Int32) (s_S_tag : Int32) (s_S_size : Int32) (s_S_lineCount : Int32) (s_S_near : Nat → Int64) (s_S_sets : Nat → Int64) (s_S_through : Nat → Int64) (s_W_there : Int32) (s_W_kind : Int32) (s_W_tag : Int32) (s_W_size : Int32) (s_W_lineCount : Int32) (s_W_sets : Nat → Int64) (s_p0_findingTimes : Nat → Int32) (s_p0_worlds : Nat → Option Nat) (s_p0_spare : Nat) : va_W := [vO o_p0 3 [.ref (a_p0 0), .ref (a_p0 1), .ref (a_p0 2), .ref (a_p0 3), .ref (a_p0 4), .ref (a_p0 5), .ref (a_p0 6), .ref (a_p0 7), .ref s_p0_spare, .int s_p0_sentSize, .int s_p0_latestFinding, .int s_p0_latestTries, .long s_p0_latestAsked], vO o_S 2 [.ref (a_S 0), .ref (a_S 1), .ref (a_S 2), .int s_S_there, .int s_S_kind, .int s_S_tag, .int s_S_size, .int s_S_lineCount], vJ T (a_S 2) 45 s_S_near, vJ T (a_S 0) 45 s_S_sets, vJ T (a_S 1) 45 s_S_through, vO o_W 2 [.ref (a_W 0), .ref (a_W 1), .ref (a_W 2), .int s_W_there, .int s_W_kind, .int s_W_tag, .int s_W_size, .int s_W_lineCount], vJ T (a_W 0) 45 s_W_sets, vI T (a_p0 3) 6 s_p0_findingTimes, vR T 2 (a_p0 0) 6 s_p0_worlds]
abbrev r_X6_part (E : vE) (T : Nat → ClassId) (o_p0 : Nat) (a_p0 : Nat → Nat) (o_S : Nat) (a_S : Nat → Nat) (o_W : Nat) (a_W : Nat → Nat) (o_B : Nat) (s_p0_sentSize : Int32) (s_p0_latestTries : Int32) (s_p0_latestAsked : Int64) (s_W_there : Int32) (s_W_kind : Int32) (s_W_tag : Int32) (s_W_size : Int32) (s_W_lineCount : Int32) (s_W_sets : Nat → Int64) (Q : Int32 → (Int32) → (Int32) → (Int32) → (Int32) → (Int32) → (Int32) → (Nat → Int64) → (Nat → Int64) → (Nat → Int64) → (Nat → Int32) → (Nat → Option Nat) → (Nat) → Prop) : Prop := vRi E cX6_part (fun v (u : (Int32) × (Int32) × (Int32) × (Int32) × (Int32) × (Int32) × (Nat → Int64) × (Nat → Int64) × (Nat → Int64) × (Nat → Int32) × (Nat → Option Nat) × (Nat)) => Q v u.1 u.2.1 u.2.2.1 u.2.2.2.1 u.2.2.2.2.1 u.2.2.2.2.2.1 u.2.2.2.2.2.2.1 u.2.2.2.2.2.2.2.1 u.2.2.2.2.2.2.2.2.1 u.2.2.2.2.2.2.2.2.2.1 u.2.2.2.2.2.2.2.2.2.2.1 u.2.2.2.2.2.2.2.2.2.2.2) (fun (u : (Int32) × (Int32) × (Int32) × (Int32) × (Int32) × (Int32) × (Nat → Int64) × (Nat → Int64) × (Nat → Int64) × (Nat → Int32) × (Nat → Option Nat) × (Nat)) => (cl_X6_part T o_p0 a_p0 o_S a_S o_W a_W o_B s_p0_sentSize u.1 s_p0_latestTries s_p0_latestAsked u.2.1 u.2.2.1 u.2.2.2.1 u.2.2.2.2.1 u.2.2.2.2.2.1 u.2.2.2.2.2.2.1 u.2.2.2.2.2.2.2.1 u.2.2.2.2.2.2.2.2.1 s_W_there s_W_kind s_W_tag s_W_size s_W_lineCount s_W_sets u.2.2.2.2.2.2.2.2.2.1 u.2.2.2.2.2.2.2.2.2.2.1 u.2.2.2.2.2.2.2.2.2.2.2))
def w_X6_part_15 (s_p0_latestFinding : Int32) (s_S_there : Int32) (s_S_kind : Int32) (s_S_tag : Int32) (s_S_size : Int32) (s_S_lineCount : Int32) (s_S_near : Nat → Int64) (s_S_sets : Nat → Int64) (s_S_through : Nat → Int64) (s_W_there : Int32) (s_W_size : Int32) (s_W_lineCount : Int32) (s_W_sets : Nat → Int64) (s_p0_findingTimes : Nat → Int32) (s_p0_worlds : Nat → Option Nat) (o_S : Nat) (o_W : Nat) (o_B : Nat) (Q : Int32 → (Int32) → (Int32) → (Int32) → (Int32) → (Int32) → (Int32) → (Nat → Int64) → (Nat → Int64) → (Nat → Int64) → (Nat → Int32) → (Nat → Option Nat) → (Nat) → Prop) : Prop := (Q (-1 : Int32) s_p0_latestFinding s_S_there s_S_kind s_S_tag s_S_size s_S_lineCount s_S_near s_S_sets s_S_through s_p0_findingTimes s_p0_worlds o_S)
def w_X6_part (x_1 : Int32) (x_2 : Int64) (x_4 : Int32) (s_p0_latestFinding : Int32) (s_S_there : Int32) (s_S_kind : Int32) (s_S_tag : Int32) (s_S_size : Int32) (s_S_lineCount : Int32) (s_S_near : Nat → Int64) (s_S_sets : Nat → Int64) (s_S_through : Nat → Int64) (s_W_there : Int32) (s_W_size : Int32) (s_W_lineCount : Int32) (s_W_sets : Nat → Int64) (s_p0_findingTimes : Nat → Int32) (s_p0_worlds : Nat → Option Nat) (o_S : Nat) (o_W : Nat) (o_B : Nat) (Q : Int32 → (Int32) → (Int32) → (Int32) → (Int32) → (Int32) → (Int32) → (Nat → Int64) → (Nat → Int64) → (Nat → Int64) → (Nat → Int32) → (Nat → Option Nat) → (Nat) → Prop) : Prop := (w_X6_isWorldNumber x_1 (fun (r_1 : Int32) => ((r_1 = 0 → (w_X6_part_15 s_p0_latestFinding s_S_there s_S_kind s_S_tag s_S_size s_S_lineCount s_S_near s_S_sets s_S_through s_W_there s_W_size s_W_lineCount s_W_sets s_p0_findingTimes s_p0_worlds o_S o_W o_B Q)) ∧ (¬ r_1 = 0 → (w_X6_isWorldNumber x_4 (fun (r_9 : Int32) => ((¬ r_9 = 0 → (vp_in x_1 6 ∧ s_p0_worlds (x_1).toNatClampNeg = some o_W ∧ ((¬ s_W_there = 0 → (w_X5_hasAll x_2 s_W_size (fun (r_42 : Int32) => ((¬ r_42 = 0 → (w_X5_mostOnLine x_2 s_W_lineCount s_W_sets (fun (r_53 : Int32) => (((2 : Int32) ≤ r_53 → (w_X1_makePart x_2 s_W_lineCount s_W_sets s_S_there s_S_kind s_S_tag s_S_size s_S_lineCount s_S_near s_S_sets s_S_through (fun (u_70_0 : Int32) (u_70_1 : Int32) (u_70_2 : Int32) (u_70_3 : Int32) (u_70_4 : Int32) (u_70_5 : Nat → Int64) (u_70_6 : Nat → Int64) (u_70_7 : Nat → Int64) => (w_X6_putSpare x_4 u_70_3 s_p0_worlds o_S o_B (fun (r_76 : Int32) (u_76_0 : Nat → Option Nat) (u_76_1 : Nat) => (Q r_76 s_p0_latestFinding u_70_0 u_70_1 u_70_2 u_70_3 u_70_4 u_70_5 u_70_6 u_70_7 s_p0_findingTimes u_76_0 u_76_1)))))) ∧ (¬ (2 : Int32) ≤ r_53 → (Q (-4 : Int32) s_p0_latestFinding s_S_there s_S_kind s_S_tag s_S_size s_S_lineCount s_S_near s_S_sets s_S_through s_p0_findingTimes s_p0_worlds o_S)))))) ∧ (r_42 = 0 → (Q (-1 : Int32) s_p0_latestFinding s_S_there s_S_kind s_S_tag s_S_size s_S_lineCount s_S_near s_S_sets s_S_through s_p0_findingTimes s_p0_worlds o_S)))))) ∧ (s_W_there = 0 → (w_X6_refused (1 : Int32) s_p0_latestFinding s_p0_findingTimes (fun (r_35 : Int32) (u_35_0 : Int32) (u_35_1 : Nat → Int32) => (Q r_35 u_35_0 s_S_there s_S_kind s_S_tag s_S_size s_S_lineCount s_S_near s_S_sets s_S_through u_35_1 s_p0_worlds o_S))))))) ∧ (r_9 = 0 → (w_X6_part_15 s_p0_latestFinding s_S_there s_S_kind s_S_tag s_S_size s_S_lineCount s_S_near s_S_sets s_S_through s_W_there s_W_size s_W_lineCount s_W_sets s_p0_findingTimes s_p0_worlds o_S o_W o_B Q)))))))))
-- X6_part
theorem iX6_part_X5 : ∀ w ∈ wsX50, w ∈ wsX6_part := by decide +kernel
theorem iX6_part_X6 : ∀ w ∈ wsX60, w ∈ wsX6_part := by decide +kernel
set_option maxHeartbeats 4000000 in
set_option maxRecDepth 100000 in
theorem k_X6_part_15 {E : vE} {T : Nat → ClassId} {o_p0 : Nat} {a_p0 : Nat → Nat} {o_S : Nat} {a_S : Nat → Nat} {o_W : Nat} {a_W : Nat → Nat} {o_B : Nat} {s_p0_sentSize : Int32} {s_p0_latestFinding : Int32} {s_p0_latestTries : Int32} {s_p0_latestAsked : Int64} {s_S_there : Int32} {s_S_kind : Int32} {s_S_tag : Int32} {s_S_size : Int32} {s_S_lineCount : Int32} {s_S_near : Nat → Int64} {s_S_sets : Nat → Int64} {s_S_through : Nat → Int64} {s_W_there : Int32} {s_W_kind : Int32} {s_W_tag : Int32} {s_W_size : Int32} {s_W_lineCount : Int32} {s_W_sets : Nat → Int64} {s_p0_findingTimes : Nat → Int32} {s_p0_worlds : Nat → Option Nat} {Q : Int32 → (Int32) → (Int32) → (Int32) → (Int32) → (Int32) → (Int32) → (Nat → Int64) → (Nat → Int64) → (Nat → Int64) → (Nat → Int32) → (Nat → Option Nat) → (Nat) → Prop} (X : vX E cX6_part 6 RX6 wsX6_part (vT T) (vr 3 73)) (r : r_X6_part E T o_p0 a_p0 o_S a_S o_W a_W o_B s_p0_sentSize s_p0_latestTries s_p0_latestAsked s_W_there s_W_kind s_W_tag s_W_size s_W_lineCount s_W_sets Q) (h : w_X6_part_15 s_p0_latestFinding s_S_there s_S_kind s_S_tag s_S_size s_S_lineCount s_S_near s_S_sets s_S_through s_W_there s_W_size s_W_lineCount s_W_sets s_p0_findingTimes s_p0_worlds o_S o_W o_B Q) : V E 0 0 15 [] [] (cl_X6_part T o_p0 a_p0 o_S a_S o_W a_W o_B s_p0_sentSize s_p0_latestFinding s_p0_latestTries s_p0_latestAsked s_S_there s_S_kind s_S_tag s_S_size s_S_lineCount s_S_near s_S_sets s_S_through s_W_there s_W_kind s_W_tag s_W_size s_W_lineCount s_W_sets s_p0_findingTimes s_p0_worlds o_S) := by
  unfold w_X6_part_15 at h
  refine v_iconst X dX6_part_15 (v := (-1 : Int32)) (by decide) ?_
  exact r _ _ _ (s_p0_latestFinding, s_S_there, s_S_kind, s_S_tag, s_S_size, s_S_lineCount, s_S_near, s_S_sets, s_S_through, s_p0_findingTimes, s_p0_worlds, o_S) _ dX6_part_16 h rfl
set_option maxHeartbeats 4000000 in
set_option maxRecDepth 100000 in
theorem c_X6_part {l : Launch} {D : va_G} {T : Nat → ClassId} {o_p0 : Nat} {a_p0 : Nat → Nat} {o_S : Nat} {a_S : Nat → Nat} {o_W : Nat} {a_W : Nat → Nat} {o_B : Nat} {s_p0_sentSize : Int32} {s_p0_latestFinding : Int32} {s_p0_latestTries : Int32} {s_p0_latestAsked : Int64} {s_S_there : Int32} {s_S_kind : Int32} {s_S_tag : Int32} {s_S_size : Int32} {s_S_lineCount : Int32} {s_S_near : Nat → Int64} {s_S_sets : Nat → Int64} {s_S_through : Nat → Int64} {s_W_there : Int32} {s_W_kind : Int32} {s_W_tag : Int32} {s_W_size : Int32} {s_W_lineCount : Int32} {s_W_sets : Nat → Int64} {s_p0_findingTimes : Nat → Int32} {s_p0_worlds : Nat → Option Nat} {x_1 : Int32} {x_2 : Int64} {x_4 : Int32} {Q : Int32 → (Int32) → (Int32) → (Int32) → (Int32) → (Int32) → (Int32) → (Nat → Int64) → (Nat → Int64) → (Nat → Int64) → (Nat → Int32) → (Nat → Option Nat) → (Nat) → Prop} (h : w_X6_part x_1 x_2 x_4 s_p0_latestFinding s_S_there s_S_kind s_S_tag s_S_size s_S_lineCount s_S_near s_S_sets s_S_through s_W_there s_W_size s_W_lineCount s_W_sets s_p0_findingTimes s_p0_worlds o_S o_W o_B Q) : vCi l D (vT T) yX6_part wsX6_part (vr 3 73) [.ref o_p0, .int x_1, .long x_2, .int x_4] (cl_X6_part T o_p0 a_p0 o_S a_S o_W a_W o_B s_p0_sentSize s_p0_latestFinding s_p0_latestTries s_p0_latestAsked s_S_there s_S_kind s_S_tag s_S_size s_S_lineCount s_S_near s_S_sets s_S_through s_W_there s_W_kind s_W_tag s_W_size s_W_lineCount s_W_sets s_p0_findingTimes s_p0_worlds o_S) (fun v (u : (Int32) × (Int32) × (Int32) × (Int32) × (Int32) × (Int32) × (Nat → Int64) × (Nat → Int64) × (Nat → Int64) × (Nat → Int32) × (Nat → Option Nat) × (Nat)) => Q v u.1 u.2.1 u.2.2.1 u.2.2.2.1 u.2.2.2.2.1 u.2.2.2.2.2.1 u.2.2.2.2.2.2.1 u.2.2.2.2.2.2.2.1 u.2.2.2.2.2.2.2.2.1 u.2.2.2.2.2.2.2.2.2.1 u.2.2.2.2.2.2.2.2.2.2.1 u.2.2.2.2.2.2.2.2.2.2.2) (fun (u : (Int32) × (Int32) × (Int32) × (Int32) × (Int32) × (Int32) × (Nat → Int64) × (Nat → Int64) × (Nat → Int64) × (Nat → Int32) × (Nat → Option Nat) × (Nat)) => (cl_X6_part T o_p0 a_p0 o_S a_S o_W a_W o_B s_p0_sentSize u.1 s_p0_latestTries s_p0_latestAsked u.2.1 u.2.2.1 u.2.2.2.1 u.2.2.2.2.1 u.2.2.2.2.2.1 u.2.2.2.2.2.2.1 u.2.2.2.2.2.2.2.1 u.2.2.2.2.2.2.2.2.1 s_W_there s_W_kind s_W_tag s_W_size s_W_lineCount s_W_sets u.2.2.2.2.2.2.2.2.2.1 u.2.2.2.2.2.2.2.2.2.2.1 u.2.2.2.2.2.2.2.2.2.2.2)) := by
  refine vC_i (cc := cX6_part) (nL := 6) (by decide +kernel) rfl ⟨rfl, rfl⟩ (Nat.le_of_ble_eq_true rfl) rfl ?_
  intro E el eD X r
  unfold w_X6_part at h
  refine v_iload_n X 1 dX6_part_0 rfl rfl ?_
  refine v_callSi0 X (As := [.int x_1]) (rest := []) 1 (c_X6_isWorldNumber (l := vl E) (D := vD E) (T := T) (x_0 := x_1) h) gX6_part_X6_isWorldNumber rfl rfl (by decide +kernel) ⟨Nat.zero_le _, Nat.zero_le _⟩ ⟨rfl, rfl, by decide, by decide⟩ (Nat.le_of_ble_eq_true rfl) rfl dX6_part_1 (fun r_1 h => ?_)
  refine v_if_eq X (tgt := 15) dX6_part_4 (by decide) (fun c_4 => ?_) (fun c_4 => ?_)
  · replace h := h.1 c_4
    refine v_lv (lv' := []) [] rfl ?_
    exact k_X6_part_15 X r h
  · replace h := h.2 c_4
    refine v_iload X 3 dX6_part_7 rfl ?_
    refine v_callSi0 X (As := [.int x_4]) (rest := []) 1 (c_X6_isWorldNumber (l := vl E) (D := vD E) (T := T) (x_0 := x_4) h) gX6_part_X6_isWorldNumber rfl rfl (by decide +kernel) ⟨Nat.zero_le _, Nat.zero_le _⟩ ⟨rfl, rfl, by decide, by decide⟩ (Nat.le_of_ble_eq_true rfl) rfl dX6_part_9 (fun r_9 h => ?_)
    refine v_if_ne X (tgt := 17) dX6_part_12 (by decide) (fun c_12 => ?_) (fun c_12 => ?_)
    · replace h := h.1 c_12
      refine v_aload_n X 0 dX6_part_17 rfl rfl ?_
      refine v_get X 0 0 (F := TX6) (N := 13) iX6_part_X6 rfl rfl (by decide) (List.mem_of_getElem? (i := 1) rfl) rfl rfl dX6_part_18 ?_
      refine v_iload_n X 1 dX6_part_21 rfl rfl ?_
      refine v_aald X 8 2 rfl rfl h.1 h.2.1 dX6_part_22 ?_
      replace h := h.2.2
      refine v_astore X (lv' := [(5, .ref o_W), (0, .ref o_p0), (1, .int x_1), (2, .long x_2), (4, .int x_4)]) dX6_part_23 (by decide) rfl ?_
      refine v_aload X 0 dX6_part_25 rfl ?_
      refine v_getN X 5 3 (F := TX5) (N := 8) iX6_part_X5 rfl rfl (by decide) (List.mem_of_getElem? (i := 23) rfl) rfl rfl dX6_part_27 ?_
      refine v_if_ne X (tgt := 39) dX6_part_30 (by decide) (fun c_30 => ?_) (fun c_30 => ?_)
      · replace h := h.1 c_30
        refine v_aload X 0 dX6_part_39 rfl ?_
        refine v_lload_n X 3 dX6_part_41 rfl rfl ?_
        refine v_callVi X (As := [.long x_2]) (rest := []) 1 0 (c_X5_hasAll (l := vl E) (D := vD E) (T := T) (o_p0 := o_W) (a_p0 := a_W) (s_p0_there := s_W_there) (s_p0_kind := s_W_kind) (s_p0_tag := s_W_tag) (s_p0_size := s_W_size) (s_p0_lineCount := s_W_lineCount) (x_1 := x_2) h) gX6_part_X5_hasAll rfl rfl (by decide +kernel) ⟨Nat.zero_le _, Nat.zero_le _⟩ ⟨rfl, rfl, by decide, by decide⟩ (Nat.le_of_ble_eq_true rfl) rfl rfl (wr := [vO o_p0 3 [.ref (a_p0 0), .ref (a_p0 1), .ref (a_p0 2), .ref (a_p0 3), .ref (a_p0 4), .ref (a_p0 5), .ref (a_p0 6), .ref (a_p0 7), .ref o_S, .int s_p0_sentSize, .int s_p0_latestFinding, .int s_p0_latestTries, .long s_p0_latestAsked], vO o_S 2 [.ref (a_S 0), .ref (a_S 1), .ref (a_S 2), .int s_S_there, .int s_S_kind, .int s_S_tag, .int s_S_size, .int s_S_lineCount], vJ T (a_S 2) 45 s_S_near, vJ T (a_S 0) 45 s_S_sets, vJ T (a_S 1) 45 s_S_through, vJ T (a_W 0) 45 s_W_sets, vI T (a_p0 3) 6 s_p0_findingTimes, vR T 2 (a_p0 0) 6 s_p0_worlds]) [5] [0, 1, 2, 3, 4, 6, 7, 8] rfl rfl rfl rfl (by decide) rfl dX6_part_42 (fun r_42 u h => ?_)
        refine v_ws (ws' := (cl_X6_part T o_p0 a_p0 o_S a_S o_W a_W o_B s_p0_sentSize s_p0_latestFinding s_p0_latestTries s_p0_latestAsked s_S_there s_S_kind s_S_tag s_S_size s_S_lineCount s_S_near s_S_sets s_S_through s_W_there s_W_kind s_W_tag s_W_size s_W_lineCount s_W_sets s_p0_findingTimes s_p0_worlds o_S)) [0, 1, 2, 3, 4, 8, 5, 6, 7] rfl rfl ?_
        refine v_if_ne X (tgt := 50) dX6_part_45 (by decide) (fun c_45 => ?_) (fun c_45 => ?_)
        · replace h := h.1 c_45
          refine v_aload X 0 dX6_part_50 rfl ?_
          refine v_lload_n X 3 dX6_part_52 rfl rfl ?_
          refine v_callVi X (As := [.long x_2]) (rest := []) 1 0 (c_X5_mostOnLine (l := vl E) (D := vD E) (T := T) (o_p0 := o_W) (a_p0 := a_W) (s_p0_there := s_W_there) (s_p0_kind := s_W_kind) (s_p0_tag := s_W_tag) (s_p0_size := s_W_size) (s_p0_lineCount := s_W_lineCount) (s_p0_sets := s_W_sets) (x_1 := x_2) h) gX6_part_X5_mostOnLine rfl rfl (by decide +kernel) ⟨Nat.zero_le _, Nat.zero_le _⟩ ⟨rfl, rfl, by decide, by decide⟩ (Nat.le_of_ble_eq_true rfl) rfl rfl (wr := [vO o_p0 3 [.ref (a_p0 0), .ref (a_p0 1), .ref (a_p0 2), .ref (a_p0 3), .ref (a_p0 4), .ref (a_p0 5), .ref (a_p0 6), .ref (a_p0 7), .ref o_S, .int s_p0_sentSize, .int s_p0_latestFinding, .int s_p0_latestTries, .long s_p0_latestAsked], vO o_S 2 [.ref (a_S 0), .ref (a_S 1), .ref (a_S 2), .int s_S_there, .int s_S_kind, .int s_S_tag, .int s_S_size, .int s_S_lineCount], vJ T (a_S 2) 45 s_S_near, vJ T (a_S 0) 45 s_S_sets, vJ T (a_S 1) 45 s_S_through, vI T (a_p0 3) 6 s_p0_findingTimes, vR T 2 (a_p0 0) 6 s_p0_worlds]) [5, 6] [0, 1, 2, 3, 4, 7, 8] rfl rfl rfl rfl (by decide) rfl dX6_part_53 (fun r_53 u h => ?_)
          refine v_ws (ws' := (cl_X6_part T o_p0 a_p0 o_S a_S o_W a_W o_B s_p0_sentSize s_p0_latestFinding s_p0_latestTries s_p0_latestAsked s_S_there s_S_kind s_S_tag s_S_size s_S_lineCount s_S_near s_S_sets s_S_through s_W_there s_W_kind s_W_tag s_W_size s_W_lineCount s_W_sets s_p0_findingTimes s_p0_worlds o_S)) [0, 1, 2, 3, 4, 7, 8, 5, 6] rfl rfl ?_
          refine v_iconst X dX6_part_56 (v := (2 : Int32)) (by decide) ?_
          refine v_icmp_ge X (tgt := 63) dX6_part_57 (by decide) (fun c_57 => ?_) (fun c_57 => ?_)
          · replace h := h.1 c_57
            refine v_aload X 0 dX6_part_63 rfl ?_
            refine v_lload_n X 3 dX6_part_65 rfl rfl ?_
            refine v_aload_n X 1 dX6_part_66 rfl rfl ?_
            refine v_get X 0 8 (F := TX6) (N := 13) iX6_part_X6 rfl rfl (by decide) (List.mem_of_getElem? (i := 2) rfl) rfl rfl dX6_part_67 ?_
            refine v_callSv X (As := [.ref o_W, .long x_2, .ref o_S]) (rest := []) 3 (c_X1_makePart (l := vl E) (D := vD E) (T := T) (o_p0 := o_W) (a_p0 := a_W) (o_p2 := o_S) (a_p2 := a_S) (s_p0_there := s_W_there) (s_p0_kind := s_W_kind) (s_p0_tag := s_W_tag) (s_p0_size := s_W_size) (s_p0_lineCount := s_W_lineCount) (s_p0_sets := s_W_sets) (s_p2_there := s_S_there) (s_p2_kind := s_S_kind) (s_p2_tag := s_S_tag) (s_p2_size := s_S_size) (s_p2_lineCount := s_S_lineCount) (s_p2_near := s_S_near) (s_p2_sets := s_S_sets) (s_p2_through := s_S_through) (x_1 := x_2) h) gX6_part_X1_makePart rfl rfl (by decide +kernel) ⟨Nat.zero_le _, Nat.zero_le _⟩ ⟨rfl, rfl, by decide, by decide⟩ (Nat.le_of_ble_eq_true rfl) (wr := [vO o_p0 3 [.ref (a_p0 0), .ref (a_p0 1), .ref (a_p0 2), .ref (a_p0 3), .ref (a_p0 4), .ref (a_p0 5), .ref (a_p0 6), .ref (a_p0 7), .ref o_S, .int s_p0_sentSize, .int s_p0_latestFinding, .int s_p0_latestTries, .long s_p0_latestAsked], vI T (a_p0 3) 6 s_p0_findingTimes, vR T 2 (a_p0 0) 6 s_p0_worlds]) [5, 6, 1, 2, 3, 4] [0, 7, 8] rfl rfl rfl rfl (by decide) rfl dX6_part_70 (fun u h => ?_)
            obtain ⟨u_70_0, u_70_1, u_70_2, u_70_3, u_70_4, u_70_5, u_70_6, u_70_7⟩ := u
            dsimp only at h
            refine v_ws (ws' := (cl_X6_part T o_p0 a_p0 o_S a_S o_W a_W o_B s_p0_sentSize s_p0_latestFinding s_p0_latestTries s_p0_latestAsked u_70_0 u_70_1 u_70_2 u_70_3 u_70_4 u_70_5 u_70_6 u_70_7 s_W_there s_W_kind s_W_tag s_W_size s_W_lineCount s_W_sets s_p0_findingTimes s_p0_worlds o_S)) [0, 5, 6, 7, 8, 3, 4, 1, 2] rfl rfl ?_
            refine v_aload_n X 1 dX6_part_73 rfl rfl ?_
            refine v_iload X 4 dX6_part_74 rfl ?_
            refine v_callVi X (As := [.int x_4]) (rest := []) 1 0 (c_X6_putSpare (l := vl E) (D := vD E) (T := T) (o_p0 := o_p0) (a_p0 := a_p0) (o_S := o_S) (a_S := a_S) (o_B := o_B) (s_p0_sentSize := s_p0_sentSize) (s_p0_latestFinding := s_p0_latestFinding) (s_p0_latestTries := s_p0_latestTries) (s_p0_latestAsked := s_p0_latestAsked) (s_S_there := u_70_0) (s_S_kind := u_70_1) (s_S_tag := u_70_2) (s_S_size := u_70_3) (s_S_lineCount := u_70_4) (s_p0_worlds := s_p0_worlds) (x_1 := x_4) h) gX6_part_X6_putSpare rfl rfl (by decide +kernel) ⟨Nat.zero_le _, Nat.zero_le _⟩ ⟨rfl, rfl, by decide, by decide⟩ (Nat.le_of_ble_eq_true rfl) rfl rfl (wr := [vJ T (a_S 2) 45 u_70_5, vJ T (a_S 0) 45 u_70_6, vJ T (a_S 1) 45 u_70_7, vO o_W 2 [.ref (a_W 0), .ref (a_W 1), .ref (a_W 2), .int s_W_there, .int s_W_kind, .int s_W_tag, .int s_W_size, .int s_W_lineCount], vJ T (a_W 0) 45 s_W_sets, vI T (a_p0 3) 6 s_p0_findingTimes]) [0, 1, 8] [2, 3, 4, 5, 6, 7] rfl rfl rfl rfl (by decide) rfl dX6_part_76 (fun r_76 u h => ?_)
            obtain ⟨u_76_0, u_76_1⟩ := u
            dsimp only at h
            refine v_ws (ws' := (cl_X6_part T o_p0 a_p0 o_S a_S o_W a_W o_B s_p0_sentSize s_p0_latestFinding s_p0_latestTries s_p0_latestAsked u_70_0 u_70_1 u_70_2 u_70_3 u_70_4 u_70_5 u_70_6 u_70_7 s_W_there s_W_kind s_W_tag s_W_size s_W_lineCount s_W_sets s_p0_findingTimes u_76_0 u_76_1)) [6, 7, 0, 1, 2, 3, 4, 5, 8] rfl rfl ?_
            exact r _ _ _ (s_p0_latestFinding, u_70_0, u_70_1, u_70_2, u_70_3, u_70_4, u_70_5, u_70_6, u_70_7, s_p0_findingTimes, u_76_0, u_76_1) _ dX6_part_79 h rfl
          · replace h := h.2 c_57
            refine v_bipush X dX6_part_60 (v := (-4 : Int32)) (by decide) ?_
            exact r _ _ _ (s_p0_latestFinding, s_S_there, s_S_kind, s_S_tag, s_S_size, s_S_lineCount, s_S_near, s_S_sets, s_S_through, s_p0_findingTimes, s_p0_worlds, o_S) _ dX6_part_62 h rfl
        · replace h := h.2 c_45
          refine v_iconst X dX6_part_48 (v := (-1 : Int32)) (by decide) ?_
          exact r _ _ _ (s_p0_latestFinding, s_S_there, s_S_kind, s_S_tag, s_S_size, s_S_lineCount, s_S_near, s_S_sets, s_S_through, s_p0_findingTimes, s_p0_worlds, o_S) _ dX6_part_49 h rfl
      · replace h := h.2 c_30
        refine v_aload_n X 1 dX6_part_33 rfl rfl ?_
        refine v_iconst X dX6_part_34 (v := (1 : Int32)) (by decide) ?_
        refine v_callVi X (As := [.int (1 : Int32)]) (rest := []) 1 0 (c_X6_refused (l := vl E) (D := vD E) (T := T) (o_p0 := o_p0) (a_p0 := a_p0) (o_S := o_S) (s_p0_sentSize := s_p0_sentSize) (s_p0_latestFinding := s_p0_latestFinding) (s_p0_latestTries := s_p0_latestTries) (s_p0_latestAsked := s_p0_latestAsked) (s_p0_findingTimes := s_p0_findingTimes) (x_1 := (1 : Int32)) h) gX6_part_X6_refused rfl rfl (by decide +kernel) ⟨Nat.zero_le _, Nat.zero_le _⟩ ⟨rfl, rfl, by decide, by decide⟩ (Nat.le_of_ble_eq_true rfl) rfl rfl (wr := [vO o_S 2 [.ref (a_S 0), .ref (a_S 1), .ref (a_S 2), .int s_S_there, .int s_S_kind, .int s_S_tag, .int s_S_size, .int s_S_lineCount], vJ T (a_S 2) 45 s_S_near, vJ T (a_S 0) 45 s_S_sets, vJ T (a_S 1) 45 s_S_through, vO o_W 2 [.ref (a_W 0), .ref (a_W 1), .ref (a_W 2), .int s_W_there, .int s_W_kind, .int s_W_tag, .int s_W_size, .int s_W_lineCount], vJ T (a_W 0) 45 s_W_sets, vR T 2 (a_p0 0) 6 s_p0_worlds]) [0, 7] [1, 2, 3, 4, 5, 6, 8] rfl rfl rfl rfl (by decide) rfl dX6_part_35 (fun r_35 u h => ?_)
        obtain ⟨u_35_0, u_35_1⟩ := u
        dsimp only at h
        refine v_ws (ws' := (cl_X6_part T o_p0 a_p0 o_S a_S o_W a_W o_B s_p0_sentSize u_35_0 s_p0_latestTries s_p0_latestAsked s_S_there s_S_kind s_S_tag s_S_size s_S_lineCount s_S_near s_S_sets s_S_through s_W_there s_W_kind s_W_tag s_W_size s_W_lineCount s_W_sets u_35_1 s_p0_worlds o_S)) [7, 0, 1, 2, 3, 4, 5, 8, 6] rfl rfl ?_
        exact r _ _ _ (u_35_0, s_S_there, s_S_kind, s_S_tag, s_S_size, s_S_lineCount, s_S_near, s_S_sets, s_S_through, u_35_1, s_p0_worlds, o_S) _ dX6_part_38 h rfl
    · replace h := h.2 c_12
      refine v_lv (lv' := []) [] rfl ?_
      exact k_X6_part_15 X r h
-- X6_drop
abbrev cl_X6_drop (T : Nat → ClassId) (o_p0 : Nat) (a_p0 : Nat → Nat) (o_S : Nat) (o_W : Nat) (a_W : Nat → Nat) (s_p0_sentSize : Int32) (s_p0_latestFinding : Int32) (s_p0_latestTries : Int32) (s_p0_latestAsked : Int64) (s_W_there : Int32) (s_W_kind : Int32) (s_W_tag : Int32) (s_W_size : Int32) (s_W_lineCount : Int32) (s_p0_findingTimes : Nat → Int32) (s_p0_worlds : Nat → Option Nat) : va_W := [vO o_p0 3 [.ref (a_p0 0), .ref (a_p0 1), .ref (a_p0 2), .ref (a_p0 3), .ref (a_p0 4), .ref (a_p0 5), .ref (a_p0 6), .ref (a_p0 7), .ref o_S, .int s_p0_sentSize, .int s_p0_latestFinding, .int s_p0_latestTries, .long s_p0_latestAsked], vO o_W 2 [.ref (a_W 0), .ref (a_W 1), .ref (a_W 2), .int s_W_there, .int s_W_kind, .int s_W_tag, .int s_W_size, .int s_W_lineCount], vI T (a_p0 3) 6 s_p0_findingTimes, vR T 2 (a_p0 0) 6 s_p0_worlds]
abbrev r_X6_drop (E : vE) (T : Nat → ClassId) (o_p0 : Nat) (a_p0 : Nat → Nat) (o_S : Nat) (o_W : Nat) (a_W : Nat → Nat) (s_p0_sentSize : Int32) (s_p0_latestTries : Int32) (s_p0_latestAsked : Int64) (s_W_kind : Int32) (s_W_tag : Int32) (s_W_size : Int32) (s_W_lineCount : Int32) (s_p0_worlds : Nat → Option Nat) (Q : Int32 → (Int32) → (Int32) → (Nat → Int32) → Prop) : Prop := vRi E cX6_drop (fun v (u : (Int32) × (Int32) × (Nat → Int32)) => Q v u.1 u.2.1 u.2.2) (fun (u : (Int32) × (Int32) × (Nat → Int32)) => (cl_X6_drop T o_p0 a_p0 o_S o_W a_W s_p0_sentSize u.1 s_p0_latestTries s_p0_latestAsked u.2.1 s_W_kind s_W_tag s_W_size s_W_lineCount u.2.2 s_p0_worlds))
def w_X6_drop (x_1 : Int32) (s_p0_latestFinding : Int32) (s_W_there : Int32) (s_p0_findingTimes : Nat → Int32) (s_p0_worlds : Nat → Option Nat) (o_W : Nat) (Q : Int32 → (Int32) → (Int32) → (Nat → Int32) → Prop) : Prop := (w_X6_isWorldNumber x_1 (fun (r_1 : Int32) => ((¬ r_1 = 0 → (vp_in x_1 6 ∧ s_p0_worlds (x_1).toNatClampNeg = some o_W ∧ ((¬ s_W_there = 0 → (vp_in x_1 6 ∧ s_p0_worlds (x_1).toNatClampNeg = some o_W ∧ (Q (1 : Int32) s_p0_latestFinding (0 : Int32) s_p0_findingTimes))) ∧ (s_W_there = 0 → (w_X6_refused (1 : Int32) s_p0_latestFinding s_p0_findingTimes (fun (r_23 : Int32) (u_23_0 : Int32) (u_23_1 : Nat → Int32) => (Q r_23 u_23_0 s_W_there u_23_1))))))) ∧ (r_1 = 0 → (Q (-1 : Int32) s_p0_latestFinding s_W_there s_p0_findingTimes)))))
-- X6_drop
theorem iX6_drop_X5 : ∀ w ∈ wsX50, w ∈ wsX6_drop := by decide +kernel
theorem iX6_drop_X6 : ∀ w ∈ wsX60, w ∈ wsX6_drop := by decide +kernel
set_option maxHeartbeats 4000000 in
set_option maxRecDepth 100000 in
theorem c_X6_drop {l : Launch} {D : va_G} {T : Nat → ClassId} {o_p0 : Nat} {a_p0 : Nat → Nat} {o_S : Nat} {o_W : Nat} {a_W : Nat → Nat} {s_p0_sentSize : Int32} {s_p0_latestFinding : Int32} {s_p0_latestTries : Int32} {s_p0_latestAsked : Int64} {s_W_there : Int32} {s_W_kind : Int32} {s_W_tag : Int32} {s_W_size : Int32} {s_W_lineCount : Int32} {s_p0_findingTimes : Nat → Int32} {s_p0_worlds : Nat → Option Nat} {x_1 : Int32} {Q : Int32 → (Int32) → (Int32) → (Nat → Int32) → Prop} (h : w_X6_drop x_1 s_p0_latestFinding s_W_there s_p0_findingTimes s_p0_worlds o_W Q) : vCi l D (vT T) yX6_drop wsX6_drop (vr 1 21) [.ref o_p0, .int x_1] (cl_X6_drop T o_p0 a_p0 o_S o_W a_W s_p0_sentSize s_p0_latestFinding s_p0_latestTries s_p0_latestAsked s_W_there s_W_kind s_W_tag s_W_size s_W_lineCount s_p0_findingTimes s_p0_worlds) (fun v (u : (Int32) × (Int32) × (Nat → Int32)) => Q v u.1 u.2.1 u.2.2) (fun (u : (Int32) × (Int32) × (Nat → Int32)) => (cl_X6_drop T o_p0 a_p0 o_S o_W a_W s_p0_sentSize u.1 s_p0_latestTries s_p0_latestAsked u.2.1 s_W_kind s_W_tag s_W_size s_W_lineCount u.2.2 s_p0_worlds)) := by
  refine vC_i (cc := cX6_drop) (nL := 2) (by decide +kernel) rfl ⟨rfl, rfl⟩ (Nat.le_of_ble_eq_true rfl) rfl ?_
  intro E el eD X r
  unfold w_X6_drop at h
  refine v_iload_n X 1 dX6_drop_0 rfl rfl ?_
  refine v_callSi0 X (As := [.int x_1]) (rest := []) 1 (c_X6_isWorldNumber (l := vl E) (D := vD E) (T := T) (x_0 := x_1) h) gX6_drop_X6_isWorldNumber rfl rfl (by decide +kernel) ⟨Nat.zero_le _, Nat.zero_le _⟩ ⟨rfl, rfl, by decide, by decide⟩ (Nat.le_of_ble_eq_true rfl) rfl dX6_drop_1 (fun r_1 h => ?_)
  refine v_if_ne X (tgt := 9) dX6_drop_4 (by decide) (fun c_4 => ?_) (fun c_4 => ?_)
  · replace h := h.1 c_4
    refine v_aload_n X 0 dX6_drop_9 rfl rfl ?_
    refine v_get X 0 0 (F := TX6) (N := 13) iX6_drop_X6 rfl rfl (by decide) (List.mem_of_getElem? (i := 1) rfl) rfl rfl dX6_drop_10 ?_
    refine v_iload_n X 1 dX6_drop_13 rfl rfl ?_
    refine v_aald X 3 2 rfl rfl h.1 h.2.1 dX6_drop_14 ?_
    replace h := h.2.2
    refine v_getN X 1 3 (F := TX5) (N := 8) iX6_drop_X5 rfl rfl (by decide) (List.mem_of_getElem? (i := 23) rfl) rfl rfl dX6_drop_15 ?_
    refine v_if_ne X (tgt := 27) dX6_drop_18 (by decide) (fun c_18 => ?_) (fun c_18 => ?_)
    · replace h := h.1 c_18
      refine v_aload_n X 0 dX6_drop_27 rfl rfl ?_
      refine v_get X 0 0 (F := TX6) (N := 13) iX6_drop_X6 rfl rfl (by decide) (List.mem_of_getElem? (i := 1) rfl) rfl rfl dX6_drop_28 ?_
      refine v_iload_n X 1 dX6_drop_31 rfl rfl ?_
      refine v_aald X 3 2 rfl rfl h.1 h.2.1 dX6_drop_32 ?_
      replace h := h.2.2
      refine v_iconst X dX6_drop_33 (v := (0 : Int32)) (by decide) ?_
      refine v_putN X (ws' := (cl_X6_drop T o_p0 a_p0 o_S o_W a_W s_p0_sentSize s_p0_latestFinding s_p0_latestTries s_p0_latestAsked (0 : Int32) s_W_kind s_W_tag s_W_size s_W_lineCount s_p0_findingTimes s_p0_worlds)) 1 3 (F := TX5) (N := 8) iX6_drop_X5 rfl tyX5 tyX5_ok nmX5 rfl (by decide) (List.mem_of_getElem? (i := 23) rfl) rfl rfl rfl (by decide) (by decide) (Nat.le_of_ble_eq_true rfl) rfl dX6_drop_34 ?_
      refine v_iconst X dX6_drop_37 (v := (1 : Int32)) (by decide) ?_
      exact r _ _ _ (s_p0_latestFinding, (0 : Int32), s_p0_findingTimes) _ dX6_drop_38 h rfl
    · replace h := h.2 c_18
      refine v_aload_n X 0 dX6_drop_21 rfl rfl ?_
      refine v_iconst X dX6_drop_22 (v := (1 : Int32)) (by decide) ?_
      refine v_callVi X (As := [.int (1 : Int32)]) (rest := []) 1 0 (c_X6_refused (l := vl E) (D := vD E) (T := T) (o_p0 := o_p0) (a_p0 := a_p0) (o_S := o_S) (s_p0_sentSize := s_p0_sentSize) (s_p0_latestFinding := s_p0_latestFinding) (s_p0_latestTries := s_p0_latestTries) (s_p0_latestAsked := s_p0_latestAsked) (s_p0_findingTimes := s_p0_findingTimes) (x_1 := (1 : Int32)) h) gX6_drop_X6_refused rfl rfl (by decide +kernel) ⟨Nat.zero_le _, Nat.zero_le _⟩ ⟨rfl, rfl, by decide, by decide⟩ (Nat.le_of_ble_eq_true rfl) rfl rfl (wr := [vO o_W 2 [.ref (a_W 0), .ref (a_W 1), .ref (a_W 2), .int s_W_there, .int s_W_kind, .int s_W_tag, .int s_W_size, .int s_W_lineCount], vR T 2 (a_p0 0) 6 s_p0_worlds]) [0, 2] [1, 3] rfl rfl rfl rfl (by decide) rfl dX6_drop_23 (fun r_23 u h => ?_)
      obtain ⟨u_23_0, u_23_1⟩ := u
      dsimp only at h
      refine v_ws (ws' := (cl_X6_drop T o_p0 a_p0 o_S o_W a_W s_p0_sentSize u_23_0 s_p0_latestTries s_p0_latestAsked s_W_there s_W_kind s_W_tag s_W_size s_W_lineCount u_23_1 s_p0_worlds)) [2, 0, 3, 1] rfl rfl ?_
      exact r _ _ _ (u_23_0, s_W_there, u_23_1) _ dX6_drop_26 h rfl
  · replace h := h.2 c_4
    refine v_iconst X dX6_drop_7 (v := (-1 : Int32)) (by decide) ?_
    exact r _ _ _ (s_p0_latestFinding, s_W_there, s_p0_findingTimes) _ dX6_drop_8 h rfl
-- X6_told
abbrev cl_X6_told (T : Nat → ClassId) (o_p0 : Nat) (a_p0 : Nat → Nat) (o_S : Nat) (o_W : Nat) (a_W : Nat → Nat) (s_p0_sentSize : Int32) (s_p0_latestFinding : Int32) (s_p0_latestTries : Int32) (s_p0_latestAsked : Int64) (s_W_there : Int32) (s_W_kind : Int32) (s_W_tag : Int32) (s_W_size : Int32) (s_W_lineCount : Int32) (s_W_sets : Nat → Int64) (s_W_through : Nat → Int64) (s_p0_findingTimes : Nat → Int32) (s_p0_worlds : Nat → Option Nat) : va_W := [vO o_p0 3 [.ref (a_p0 0), .ref (a_p0 1), .ref (a_p0 2), .ref (a_p0 3), .ref (a_p0 4), .ref (a_p0 5), .ref (a_p0 6), .ref (a_p0 7), .ref o_S, .int s_p0_sentSize, .int s_p0_latestFinding, .int s_p0_latestTries, .long s_p0_latestAsked], vO o_W 2 [.ref (a_W 0), .ref (a_W 1), .ref (a_W 2), .int s_W_there, .int s_W_kind, .int s_W_tag, .int s_W_size, .int s_W_lineCount], vJ T (a_W 0) 45 s_W_sets, vJ T (a_W 1) 45 s_W_through, vI T (a_p0 3) 6 s_p0_findingTimes, vR T 2 (a_p0 0) 6 s_p0_worlds]
abbrev r_X6_told (E : vE) (T : Nat → ClassId) (o_p0 : Nat) (a_p0 : Nat → Nat) (o_S : Nat) (o_W : Nat) (a_W : Nat → Nat) (s_p0_sentSize : Int32) (s_p0_latestTries : Int32) (s_p0_latestAsked : Int64) (s_W_there : Int32) (s_W_kind : Int32) (s_W_tag : Int32) (s_W_size : Int32) (s_W_lineCount : Int32) (s_W_sets : Nat → Int64) (s_W_through : Nat → Int64) (s_p0_worlds : Nat → Option Nat) (Q : Int32 → (Int32) → (Nat → Int32) → Prop) : Prop := vRi E cX6_told (fun v (u : (Int32) × (Nat → Int32)) => Q v u.1 u.2) (fun (u : (Int32) × (Nat → Int32)) => (cl_X6_told T o_p0 a_p0 o_S o_W a_W s_p0_sentSize u.1 s_p0_latestTries s_p0_latestAsked s_W_there s_W_kind s_W_tag s_W_size s_W_lineCount s_W_sets s_W_through u.2 s_p0_worlds))
def w_X6_told_16 (s_p0_latestFinding : Int32) (s_W_there : Int32) (s_W_kind : Int32) (s_W_size : Int32) (s_W_lineCount : Int32) (s_W_sets : Nat → Int64) (s_W_through : Nat → Int64) (s_p0_findingTimes : Nat → Int32) (s_p0_worlds : Nat → Option Nat) (o_W : Nat) (Q : Int32 → (Int32) → (Nat → Int32) → Prop) : Prop := (Q (-1 : Int32) s_p0_latestFinding s_p0_findingTimes)
def w_X6_told (x_1 : Int32) (x_2 : Int32) (s_p0_latestFinding : Int32) (s_W_there : Int32) (s_W_kind : Int32) (s_W_size : Int32) (s_W_lineCount : Int32) (s_W_sets : Nat → Int64) (s_W_through : Nat → Int64) (s_p0_findingTimes : Nat → Int32) (s_p0_worlds : Nat → Option Nat) (o_W : Nat) (Q : Int32 → (Int32) → (Nat → Int32) → Prop) : Prop := (w_X6_isWorldNumber x_1 (fun (r_1 : Int32) => ((r_1 = 0 → (w_X6_told_16 s_p0_latestFinding s_W_there s_W_kind s_W_size s_W_lineCount s_W_sets s_W_through s_p0_findingTimes s_p0_worlds o_W Q)) ∧ (¬ r_1 = 0 → ((x_2 < 0 → (w_X6_told_16 s_p0_latestFinding s_W_there s_W_kind s_W_size s_W_lineCount s_W_sets s_W_through s_p0_findingTimes s_p0_worlds o_W Q)) ∧ (¬ x_2 < 0 → ((x_2 ≤ (4 : Int32) → (vp_in x_1 6 ∧ s_p0_worlds (x_1).toNatClampNeg = some o_W ∧ ((¬ s_W_there = 0 → ((((x_2).toInt < 0 ∨ 3 < (x_2).toInt) → (w_X5_orderOfPoints s_W_size s_W_lineCount s_W_through (fun (r_89 : Int32) => (Q r_89 s_p0_latestFinding s_p0_findingTimes)))) ∧ (x_2 = 0 → (Q s_W_kind s_p0_latestFinding s_p0_findingTimes)) ∧ (x_2 = 1 → (Q s_W_size s_p0_latestFinding s_p0_findingTimes)) ∧ (x_2 = 2 → (Q s_W_lineCount s_p0_latestFinding s_p0_findingTimes)) ∧ (x_2 = 3 → (w_X5_orderOfLines s_W_lineCount s_W_sets (fun (r_84 : Int32) => (Q r_84 s_p0_latestFinding s_p0_findingTimes)))))) ∧ (s_W_there = 0 → (w_X6_refused (1 : Int32) s_p0_latestFinding s_p0_findingTimes (fun (r_34 : Int32) (u_34_0 : Int32) (u_34_1 : Nat → Int32) => (Q r_34 u_34_0 u_34_1))))))) ∧ (¬ x_2 ≤ (4 : Int32) → (w_X6_told_16 s_p0_latestFinding s_W_there s_W_kind s_W_size s_W_lineCount s_W_sets s_W_through s_p0_findingTimes s_p0_worlds o_W Q)))))))))
-- X6_told
theorem iX6_told_X5 : ∀ w ∈ wsX50, w ∈ wsX6_told := by decide +kernel
theorem iX6_told_X6 : ∀ w ∈ wsX60, w ∈ wsX6_told := by decide +kernel
set_option maxHeartbeats 4000000 in
set_option maxRecDepth 100000 in
theorem k_X6_told_16 {E : vE} {T : Nat → ClassId} {o_p0 : Nat} {a_p0 : Nat → Nat} {o_S : Nat} {o_W : Nat} {a_W : Nat → Nat} {s_p0_sentSize : Int32} {s_p0_latestFinding : Int32} {s_p0_latestTries : Int32} {s_p0_latestAsked : Int64} {s_W_there : Int32} {s_W_kind : Int32} {s_W_tag : Int32} {s_W_size : Int32} {s_W_lineCount : Int32} {s_W_sets : Nat → Int64} {s_W_through : Nat → Int64} {s_p0_findingTimes : Nat → Int32} {s_p0_worlds : Nat → Option Nat} {Q : Int32 → (Int32) → (Nat → Int32) → Prop} (X : vX E cX6_told 4 RX6 wsX6_told (vT T) (vr 2 43)) (r : r_X6_told E T o_p0 a_p0 o_S o_W a_W s_p0_sentSize s_p0_latestTries s_p0_latestAsked s_W_there s_W_kind s_W_tag s_W_size s_W_lineCount s_W_sets s_W_through s_p0_worlds Q) (h : w_X6_told_16 s_p0_latestFinding s_W_there s_W_kind s_W_size s_W_lineCount s_W_sets s_W_through s_p0_findingTimes s_p0_worlds o_W Q) : V E 0 0 16 [] [] (cl_X6_told T o_p0 a_p0 o_S o_W a_W s_p0_sentSize s_p0_latestFinding s_p0_latestTries s_p0_latestAsked s_W_there s_W_kind s_W_tag s_W_size s_W_lineCount s_W_sets s_W_through s_p0_findingTimes s_p0_worlds) := by
  unfold w_X6_told_16 at h
  refine v_iconst X dX6_told_16 (v := (-1 : Int32)) (by decide) ?_
  exact r _ _ _ (s_p0_latestFinding, s_p0_findingTimes) _ dX6_told_17 h rfl
set_option maxHeartbeats 4000000 in
set_option maxRecDepth 100000 in
theorem c_X6_told {l : Launch} {D : va_G} {T : Nat → ClassId} {o_p0 : Nat} {a_p0 : Nat → Nat} {o_S : Nat} {o_W : Nat} {a_W : Nat → Nat} {s_p0_sentSize : Int32} {s_p0_latestFinding : Int32} {s_p0_latestTries : Int32} {s_p0_latestAsked : Int64} {s_W_there : Int32} {s_W_kind : Int32} {s_W_tag : Int32} {s_W_size : Int32} {s_W_lineCount : Int32} {s_W_sets : Nat → Int64} {s_W_through : Nat → Int64} {s_p0_findingTimes : Nat → Int32} {s_p0_worlds : Nat → Option Nat} {x_1 : Int32} {x_2 : Int32} {Q : Int32 → (Int32) → (Nat → Int32) → Prop} (h : w_X6_told x_1 x_2 s_p0_latestFinding s_W_there s_W_kind s_W_size s_W_lineCount s_W_sets s_W_through s_p0_findingTimes s_p0_worlds o_W Q) : vCi l D (vT T) yX6_told wsX6_told (vr 2 43) [.ref o_p0, .int x_1, .int x_2] (cl_X6_told T o_p0 a_p0 o_S o_W a_W s_p0_sentSize s_p0_latestFinding s_p0_latestTries s_p0_latestAsked s_W_there s_W_kind s_W_tag s_W_size s_W_lineCount s_W_sets s_W_through s_p0_findingTimes s_p0_worlds) (fun v (u : (Int32) × (Nat → Int32)) => Q v u.1 u.2) (fun (u : (Int32) × (Nat → Int32)) => (cl_X6_told T o_p0 a_p0 o_S o_W a_W s_p0_sentSize u.1 s_p0_latestTries s_p0_latestAsked s_W_there s_W_kind s_W_tag s_W_size s_W_lineCount s_W_sets s_W_through u.2 s_p0_worlds)) := by
  refine vC_i (cc := cX6_told) (nL := 4) (by decide +kernel) rfl ⟨rfl, rfl⟩ (Nat.le_of_ble_eq_true rfl) rfl ?_
  intro E el eD X r
  unfold w_X6_told at h
  refine v_iload_n X 1 dX6_told_0 rfl rfl ?_
  refine v_callSi0 X (As := [.int x_1]) (rest := []) 1 (c_X6_isWorldNumber (l := vl E) (D := vD E) (T := T) (x_0 := x_1) h) gX6_told_X6_isWorldNumber rfl rfl (by decide +kernel) ⟨Nat.zero_le _, Nat.zero_le _⟩ ⟨rfl, rfl, by decide, by decide⟩ (Nat.le_of_ble_eq_true rfl) rfl dX6_told_1 (fun r_1 h => ?_)
  refine v_if_eq X (tgt := 16) dX6_told_4 (by decide) (fun c_4 => ?_) (fun c_4 => ?_)
  · replace h := h.1 c_4
    refine v_lv (lv' := []) [] rfl ?_
    exact k_X6_told_16 X r h
  · replace h := h.2 c_4
    refine v_iload_n X 2 dX6_told_7 rfl rfl ?_
    refine v_if_lt X (tgt := 16) dX6_told_8 (by decide) (fun c_8 => ?_) (fun c_8 => ?_)
    · replace h := h.1 c_8
      refine v_lv (lv' := []) [] rfl ?_
      exact k_X6_told_16 X r h
    · replace h := h.2 c_8
      refine v_iload_n X 2 dX6_told_11 rfl rfl ?_
      refine v_iconst X dX6_told_12 (v := (4 : Int32)) (by decide) ?_
      refine v_icmp_le X (tgt := 18) dX6_told_13 (by decide) (fun c_13 => ?_) (fun c_13 => ?_)
      · replace h := h.1 c_13
        refine v_aload_n X 0 dX6_told_18 rfl rfl ?_
        refine v_get X 0 0 (F := TX6) (N := 13) iX6_told_X6 rfl rfl (by decide) (List.mem_of_getElem? (i := 1) rfl) rfl rfl dX6_told_19 ?_
        refine v_iload_n X 1 dX6_told_22 rfl rfl ?_
        refine v_aald X 5 2 rfl rfl h.1 h.2.1 dX6_told_23 ?_
        replace h := h.2.2
        refine v_astore_n X (lv' := [(3, .ref o_W), (0, .ref o_p0), (1, .int x_1), (2, .int x_2)]) dX6_told_24 rfl (by decide) rfl ?_
        refine v_aload_n X 0 dX6_told_25 rfl rfl ?_
        refine v_getN X 1 3 (F := TX5) (N := 8) iX6_told_X5 rfl rfl (by decide) (List.mem_of_getElem? (i := 23) rfl) rfl rfl dX6_told_26 ?_
        refine v_if_ne X (tgt := 38) dX6_told_29 (by decide) (fun c_29 => ?_) (fun c_29 => ?_)
        · replace h := h.1 c_29
          refine v_iload_n X 3 dX6_told_38 rfl rfl ?_
          by_cases c_39 : (x_2).toInt < 0 ∨ 3 < (x_2).toInt
          · replace h := h.1 c_39
            refine v_tsOut X (tgt := 88) dX6_told_39 c_39 (by decide) ?_
            refine v_aload_n X 0 dX6_told_88 rfl rfl ?_
            refine v_callVi X (As := []) (rest := []) 0 0 (c_X5_orderOfPoints (l := vl E) (D := vD E) (T := T) (o_p0 := o_W) (a_p0 := a_W) (s_p0_there := s_W_there) (s_p0_kind := s_W_kind) (s_p0_tag := s_W_tag) (s_p0_size := s_W_size) (s_p0_lineCount := s_W_lineCount) (s_p0_through := s_W_through) h) gX6_told_X5_orderOfPoints rfl rfl (by decide +kernel) ⟨Nat.zero_le _, Nat.zero_le _⟩ ⟨rfl, rfl, by decide, by decide⟩ (Nat.le_of_ble_eq_true rfl) rfl rfl (wr := [vO o_p0 3 [.ref (a_p0 0), .ref (a_p0 1), .ref (a_p0 2), .ref (a_p0 3), .ref (a_p0 4), .ref (a_p0 5), .ref (a_p0 6), .ref (a_p0 7), .ref o_S, .int s_p0_sentSize, .int s_p0_latestFinding, .int s_p0_latestTries, .long s_p0_latestAsked], vJ T (a_W 0) 45 s_W_sets, vI T (a_p0 3) 6 s_p0_findingTimes, vR T 2 (a_p0 0) 6 s_p0_worlds]) [1, 3] [0, 2, 4, 5] rfl rfl rfl rfl (by decide) rfl dX6_told_89 (fun r_89 u h => ?_)
            refine v_ws (ws' := (cl_X6_told T o_p0 a_p0 o_S o_W a_W s_p0_sentSize s_p0_latestFinding s_p0_latestTries s_p0_latestAsked s_W_there s_W_kind s_W_tag s_W_size s_W_lineCount s_W_sets s_W_through s_p0_findingTimes s_p0_worlds)) [0, 4, 1, 5, 2, 3] rfl rfl ?_
            exact r _ _ _ (s_p0_latestFinding, s_p0_findingTimes) _ dX6_told_92 h rfl
          · replace h := h.2
            have c2_39 : x_2 = 0 ∨ x_2 = 1 ∨ x_2 = 2 ∨ x_2 = 3 := vts_4 c_39
            rcases c2_39 with c3 | c3 | c3 | c3
            · replace h := h.1 c3
              refine v_tsIn X (off := 29) (tgt := 68) dX6_told_39 (by rw [c3]; decide) (by rw [c3]; decide) (by rw [c3]; rfl) (by decide) ?_
              refine v_aload_n X 0 dX6_told_68 rfl rfl ?_
              refine v_getN X 1 4 (F := TX5) (N := 8) iX6_told_X5 rfl rfl (by decide) (List.mem_of_getElem? (i := 24) rfl) rfl rfl dX6_told_69 ?_
              exact r _ _ _ (s_p0_latestFinding, s_p0_findingTimes) _ dX6_told_72 h rfl
            · replace h := h.2.1 c3
              refine v_tsIn X (off := 34) (tgt := 73) dX6_told_39 (by rw [c3]; decide) (by rw [c3]; decide) (by rw [c3]; rfl) (by decide) ?_
              refine v_aload_n X 0 dX6_told_73 rfl rfl ?_
              refine v_getN X 1 6 (F := TX5) (N := 8) iX6_told_X5 rfl rfl (by decide) (List.mem_of_getElem? (i := 29) rfl) rfl rfl dX6_told_74 ?_
              exact r _ _ _ (s_p0_latestFinding, s_p0_findingTimes) _ dX6_told_77 h rfl
            · replace h := h.2.2.1 c3
              refine v_tsIn X (off := 39) (tgt := 78) dX6_told_39 (by rw [c3]; decide) (by rw [c3]; decide) (by rw [c3]; rfl) (by decide) ?_
              refine v_aload_n X 0 dX6_told_78 rfl rfl ?_
              refine v_getN X 1 7 (F := TX5) (N := 8) iX6_told_X5 rfl rfl (by decide) (List.mem_of_getElem? (i := 33) rfl) rfl rfl dX6_told_79 ?_
              exact r _ _ _ (s_p0_latestFinding, s_p0_findingTimes) _ dX6_told_82 h rfl
            · replace h := h.2.2.2 c3
              refine v_tsIn X (off := 44) (tgt := 83) dX6_told_39 (by rw [c3]; decide) (by rw [c3]; decide) (by rw [c3]; rfl) (by decide) ?_
              refine v_aload_n X 0 dX6_told_83 rfl rfl ?_
              refine v_callVi X (As := []) (rest := []) 0 0 (c_X5_orderOfLines (l := vl E) (D := vD E) (T := T) (o_p0 := o_W) (a_p0 := a_W) (s_p0_there := s_W_there) (s_p0_kind := s_W_kind) (s_p0_tag := s_W_tag) (s_p0_size := s_W_size) (s_p0_lineCount := s_W_lineCount) (s_p0_sets := s_W_sets) h) gX6_told_X5_orderOfLines rfl rfl (by decide +kernel) ⟨Nat.zero_le _, Nat.zero_le _⟩ ⟨rfl, rfl, by decide, by decide⟩ (Nat.le_of_ble_eq_true rfl) rfl rfl (wr := [vO o_p0 3 [.ref (a_p0 0), .ref (a_p0 1), .ref (a_p0 2), .ref (a_p0 3), .ref (a_p0 4), .ref (a_p0 5), .ref (a_p0 6), .ref (a_p0 7), .ref o_S, .int s_p0_sentSize, .int s_p0_latestFinding, .int s_p0_latestTries, .long s_p0_latestAsked], vJ T (a_W 1) 45 s_W_through, vI T (a_p0 3) 6 s_p0_findingTimes, vR T 2 (a_p0 0) 6 s_p0_worlds]) [1, 2] [0, 3, 4, 5] rfl rfl rfl rfl (by decide) rfl dX6_told_84 (fun r_84 u h => ?_)
              refine v_ws (ws' := (cl_X6_told T o_p0 a_p0 o_S o_W a_W s_p0_sentSize s_p0_latestFinding s_p0_latestTries s_p0_latestAsked s_W_there s_W_kind s_W_tag s_W_size s_W_lineCount s_W_sets s_W_through s_p0_findingTimes s_p0_worlds)) [0, 4, 5, 1, 2, 3] rfl rfl ?_
              exact r _ _ _ (s_p0_latestFinding, s_p0_findingTimes) _ dX6_told_87 h rfl
        · replace h := h.2 c_29
          refine v_aload_n X 1 dX6_told_32 rfl rfl ?_
          refine v_iconst X dX6_told_33 (v := (1 : Int32)) (by decide) ?_
          refine v_callVi X (As := [.int (1 : Int32)]) (rest := []) 1 0 (c_X6_refused (l := vl E) (D := vD E) (T := T) (o_p0 := o_p0) (a_p0 := a_p0) (o_S := o_S) (s_p0_sentSize := s_p0_sentSize) (s_p0_latestFinding := s_p0_latestFinding) (s_p0_latestTries := s_p0_latestTries) (s_p0_latestAsked := s_p0_latestAsked) (s_p0_findingTimes := s_p0_findingTimes) (x_1 := (1 : Int32)) h) gX6_told_X6_refused rfl rfl (by decide +kernel) ⟨Nat.zero_le _, Nat.zero_le _⟩ ⟨rfl, rfl, by decide, by decide⟩ (Nat.le_of_ble_eq_true rfl) rfl rfl (wr := [vO o_W 2 [.ref (a_W 0), .ref (a_W 1), .ref (a_W 2), .int s_W_there, .int s_W_kind, .int s_W_tag, .int s_W_size, .int s_W_lineCount], vJ T (a_W 0) 45 s_W_sets, vJ T (a_W 1) 45 s_W_through, vR T 2 (a_p0 0) 6 s_p0_worlds]) [0, 4] [1, 2, 3, 5] rfl rfl rfl rfl (by decide) rfl dX6_told_34 (fun r_34 u h => ?_)
          obtain ⟨u_34_0, u_34_1⟩ := u
          dsimp only at h
          refine v_ws (ws' := (cl_X6_told T o_p0 a_p0 o_S o_W a_W s_p0_sentSize u_34_0 s_p0_latestTries s_p0_latestAsked s_W_there s_W_kind s_W_tag s_W_size s_W_lineCount s_W_sets s_W_through u_34_1 s_p0_worlds)) [4, 0, 1, 2, 5, 3] rfl rfl ?_
          exact r _ _ _ (u_34_0, u_34_1) _ dX6_told_37 h rfl
      · replace h := h.2 c_13
        refine v_lv (lv' := []) [] rfl ?_
        exact k_X6_told_16 X r h
-- X6_mark
abbrev cl_X6_mark (T : Nat → ClassId) (o_p0 : Nat) (a_p0 : Nat → Nat) (o_S : Nat) (o_W : Nat) (a_W : Nat → Nat) (s_p0_sentSize : Int32) (s_p0_latestFinding : Int32) (s_p0_latestTries : Int32) (s_p0_latestAsked : Int64) (s_W_there : Int32) (s_W_kind : Int32) (s_W_tag : Int32) (s_W_size : Int32) (s_W_lineCount : Int32) (s_W_through : Nat → Int64) (s_p0_findingTimes : Nat → Int32) (s_p0_worlds : Nat → Option Nat) : va_W := [vO o_p0 3 [.ref (a_p0 0), .ref (a_p0 1), .ref (a_p0 2), .ref (a_p0 3), .ref (a_p0 4), .ref (a_p0 5), .ref (a_p0 6), .ref (a_p0 7), .ref o_S, .int s_p0_sentSize, .int s_p0_latestFinding, .int s_p0_latestTries, .long s_p0_latestAsked], vO o_W 2 [.ref (a_W 0), .ref (a_W 1), .ref (a_W 2), .int s_W_there, .int s_W_kind, .int s_W_tag, .int s_W_size, .int s_W_lineCount], vJ T (a_W 1) 45 s_W_through, vI T (a_p0 3) 6 s_p0_findingTimes, vR T 2 (a_p0 0) 6 s_p0_worlds]
abbrev r_X6_mark (E : vE) (T : Nat → ClassId) (o_p0 : Nat) (a_p0 : Nat → Nat) (o_S : Nat) (o_W : Nat) (a_W : Nat → Nat) (s_p0_sentSize : Int32) (s_p0_latestTries : Int32) (s_p0_latestAsked : Int64) (s_W_there : Int32) (s_W_kind : Int32) (s_W_tag : Int32) (s_W_size : Int32) (s_W_lineCount : Int32) (s_W_through : Nat → Int64) (s_p0_worlds : Nat → Option Nat) (Q : Int32 → (Int32) → (Nat → Int32) → Prop) : Prop := vRi E cX6_mark (fun v (u : (Int32) × (Nat → Int32)) => Q v u.1 u.2) (fun (u : (Int32) × (Nat → Int32)) => (cl_X6_mark T o_p0 a_p0 o_S o_W a_W s_p0_sentSize u.1 s_p0_latestTries s_p0_latestAsked s_W_there s_W_kind s_W_tag s_W_size s_W_lineCount s_W_through u.2 s_p0_worlds))
def w_X6_mark_74 (t_0 : Int32) (s_p0_latestFinding : Int32) (s_W_there : Int32) (s_W_kind : Int32) (s_W_tag : Int32) (s_W_through : Nat → Int64) (s_p0_findingTimes : Nat → Int32) (s_p0_worlds : Nat → Option Nat) (o_W : Nat) (Q : Int32 → (Int32) → (Nat → Int32) → Prop) : Prop := (Q t_0 s_p0_latestFinding s_p0_findingTimes)
def w_X6_mark_17 (s_p0_latestFinding : Int32) (s_W_there : Int32) (s_W_kind : Int32) (s_W_tag : Int32) (s_W_through : Nat → Int64) (s_p0_findingTimes : Nat → Int32) (s_p0_worlds : Nat → Option Nat) (o_W : Nat) (Q : Int32 → (Int32) → (Nat → Int32) → Prop) : Prop := (Q (-1 : Int32) s_p0_latestFinding s_p0_findingTimes)
def w_X6_mark (x_1 : Int32) (x_2 : Int32) (s_p0_latestFinding : Int32) (s_W_there : Int32) (s_W_kind : Int32) (s_W_tag : Int32) (s_W_through : Nat → Int64) (s_p0_findingTimes : Nat → Int32) (s_p0_worlds : Nat → Option Nat) (o_W : Nat) (Q : Int32 → (Int32) → (Nat → Int32) → Prop) : Prop := (w_X6_isWorldNumber x_1 (fun (r_1 : Int32) => ((r_1 = 0 → (w_X6_mark_17 s_p0_latestFinding s_W_there s_W_kind s_W_tag s_W_through s_p0_findingTimes s_p0_worlds o_W Q)) ∧ (¬ r_1 = 0 → ((x_2 < (1 : Int32) → (w_X6_mark_17 s_p0_latestFinding s_W_there s_W_kind s_W_tag s_W_through s_p0_findingTimes s_p0_worlds o_W Q)) ∧ (¬ x_2 < (1 : Int32) → ((x_2 ≤ (3 : Int32) → (vp_in x_1 6 ∧ s_p0_worlds (x_1).toNatClampNeg = some o_W ∧ ((¬ s_W_there = 0 → ((s_W_kind = x_2 → ((¬ x_2 = (3 : Int32) → (w_X6_mark_74 s_W_tag s_p0_latestFinding s_W_there s_W_kind s_W_tag s_W_through s_p0_findingTimes s_p0_worlds o_W Q)) ∧ (x_2 = (3 : Int32) → (vp_in (0 : Int32) 45 ∧ (w_J13_bitCount_95d88 (s_W_through ((0 : Int32)).toNatClampNeg) (fun (r_64 : Int32) => (w_X6_mark_74 r_64 s_p0_latestFinding s_W_there s_W_kind s_W_tag s_W_through s_p0_findingTimes s_p0_worlds o_W Q))))))) ∧ (¬ s_W_kind = x_2 → (w_X6_refused (3 : Int32) s_p0_latestFinding s_p0_findingTimes (fun (r_49 : Int32) (u_49_0 : Int32) (u_49_1 : Nat → Int32) => (Q r_49 u_49_0 u_49_1)))))) ∧ (s_W_there = 0 → (w_X6_refused (1 : Int32) s_p0_latestFinding s_p0_findingTimes (fun (r_35 : Int32) (u_35_0 : Int32) (u_35_1 : Nat → Int32) => (Q r_35 u_35_0 u_35_1))))))) ∧ (¬ x_2 ≤ (3 : Int32) → (w_X6_mark_17 s_p0_latestFinding s_W_there s_W_kind s_W_tag s_W_through s_p0_findingTimes s_p0_worlds o_W Q)))))))))
-- X6_mark
theorem iX6_mark_X5 : ∀ w ∈ wsX50, w ∈ wsX6_mark := by decide +kernel
theorem iX6_mark_X6 : ∀ w ∈ wsX60, w ∈ wsX6_mark := by decide +kernel
set_option maxHeartbeats 4000000 in
set_option maxRecDepth 100000 in
theorem k_X6_mark_74 {E : vE} {T : Nat → ClassId} {o_p0 : Nat} {a_p0 : Nat → Nat} {o_S : Nat} {o_W : Nat} {a_W : Nat → Nat} {s_p0_sentSize : Int32} {s_p0_latestFinding : Int32} {s_p0_latestTries : Int32} {s_p0_latestAsked : Int64} {s_W_there : Int32} {s_W_kind : Int32} {s_W_tag : Int32} {s_W_size : Int32} {s_W_lineCount : Int32} {s_W_through : Nat → Int64} {s_p0_findingTimes : Nat → Int32} {s_p0_worlds : Nat → Option Nat} {t_0 : Int32} {Q : Int32 → (Int32) → (Nat → Int32) → Prop} (X : vX E cX6_mark 4 RX6 wsX6_mark (vT T) (vr 1 21)) (r : r_X6_mark E T o_p0 a_p0 o_S o_W a_W s_p0_sentSize s_p0_latestTries s_p0_latestAsked s_W_there s_W_kind s_W_tag s_W_size s_W_lineCount s_W_through s_p0_worlds Q) (h : w_X6_mark_74 t_0 s_p0_latestFinding s_W_there s_W_kind s_W_tag s_W_through s_p0_findingTimes s_p0_worlds o_W Q) : V E 0 0 74 [] [.int t_0] (cl_X6_mark T o_p0 a_p0 o_S o_W a_W s_p0_sentSize s_p0_latestFinding s_p0_latestTries s_p0_latestAsked s_W_there s_W_kind s_W_tag s_W_size s_W_lineCount s_W_through s_p0_findingTimes s_p0_worlds) := by
  unfold w_X6_mark_74 at h
  exact r _ _ _ (s_p0_latestFinding, s_p0_findingTimes) _ dX6_mark_74 h rfl
set_option maxHeartbeats 4000000 in
set_option maxRecDepth 100000 in
theorem k_X6_mark_17 {E : vE} {T : Nat → ClassId} {o_p0 : Nat} {a_p0 : Nat → Nat} {o_S : Nat} {o_W : Nat} {a_W : Nat → Nat} {s_p0_sentSize : Int32} {s_p0_latestFinding : Int32} {s_p0_latestTries : Int32} {s_p0_latestAsked : Int64} {s_W_there : Int32} {s_W_kind : Int32} {s_W_tag : Int32} {s_W_size : Int32} {s_W_lineCount : Int32} {s_W_through : Nat → Int64} {s_p0_findingTimes : Nat → Int32} {s_p0_worlds : Nat → Option Nat} {Q : Int32 → (Int32) → (Nat → Int32) → Prop} (X : vX E cX6_mark 4 RX6 wsX6_mark (vT T) (vr 1 21)) (r : r_X6_mark E T o_p0 a_p0 o_S o_W a_W s_p0_sentSize s_p0_latestTries s_p0_latestAsked s_W_there s_W_kind s_W_tag s_W_size s_W_lineCount s_W_through s_p0_worlds Q) (h : w_X6_mark_17 s_p0_latestFinding s_W_there s_W_kind s_W_tag s_W_through s_p0_findingTimes s_p0_worlds o_W Q) : V E 0 0 17 [] [] (cl_X6_mark T o_p0 a_p0 o_S o_W a_W s_p0_sentSize s_p0_latestFinding s_p0_latestTries s_p0_latestAsked s_W_there s_W_kind s_W_tag s_W_size s_W_lineCount s_W_through s_p0_findingTimes s_p0_worlds) := by
  unfold w_X6_mark_17 at h
  refine v_iconst X dX6_mark_17 (v := (-1 : Int32)) (by decide) ?_
  exact r _ _ _ (s_p0_latestFinding, s_p0_findingTimes) _ dX6_mark_18 h rfl
set_option maxHeartbeats 4000000 in
set_option maxRecDepth 100000 in
theorem c_X6_mark {l : Launch} {D : va_G} {T : Nat → ClassId} {o_p0 : Nat} {a_p0 : Nat → Nat} {o_S : Nat} {o_W : Nat} {a_W : Nat → Nat} {s_p0_sentSize : Int32} {s_p0_latestFinding : Int32} {s_p0_latestTries : Int32} {s_p0_latestAsked : Int64} {s_W_there : Int32} {s_W_kind : Int32} {s_W_tag : Int32} {s_W_size : Int32} {s_W_lineCount : Int32} {s_W_through : Nat → Int64} {s_p0_findingTimes : Nat → Int32} {s_p0_worlds : Nat → Option Nat} {x_1 : Int32} {x_2 : Int32} {Q : Int32 → (Int32) → (Nat → Int32) → Prop} (h : w_X6_mark x_1 x_2 s_p0_latestFinding s_W_there s_W_kind s_W_tag s_W_through s_p0_findingTimes s_p0_worlds o_W Q) : vCi l D (vT T) yX6_mark wsX6_mark (vr 1 21) [.ref o_p0, .int x_1, .int x_2] (cl_X6_mark T o_p0 a_p0 o_S o_W a_W s_p0_sentSize s_p0_latestFinding s_p0_latestTries s_p0_latestAsked s_W_there s_W_kind s_W_tag s_W_size s_W_lineCount s_W_through s_p0_findingTimes s_p0_worlds) (fun v (u : (Int32) × (Nat → Int32)) => Q v u.1 u.2) (fun (u : (Int32) × (Nat → Int32)) => (cl_X6_mark T o_p0 a_p0 o_S o_W a_W s_p0_sentSize u.1 s_p0_latestTries s_p0_latestAsked s_W_there s_W_kind s_W_tag s_W_size s_W_lineCount s_W_through u.2 s_p0_worlds)) := by
  refine vC_i (cc := cX6_mark) (nL := 4) (by decide +kernel) rfl ⟨rfl, rfl⟩ (Nat.le_of_ble_eq_true rfl) rfl ?_
  intro E el eD X r
  unfold w_X6_mark at h
  refine v_iload_n X 1 dX6_mark_0 rfl rfl ?_
  refine v_callSi0 X (As := [.int x_1]) (rest := []) 1 (c_X6_isWorldNumber (l := vl E) (D := vD E) (T := T) (x_0 := x_1) h) gX6_mark_X6_isWorldNumber rfl rfl (by decide +kernel) ⟨Nat.zero_le _, Nat.zero_le _⟩ ⟨rfl, rfl, by decide, by decide⟩ (Nat.le_of_ble_eq_true rfl) rfl dX6_mark_1 (fun r_1 h => ?_)
  refine v_if_eq X (tgt := 17) dX6_mark_4 (by decide) (fun c_4 => ?_) (fun c_4 => ?_)
  · replace h := h.1 c_4
    refine v_lv (lv' := []) [] rfl ?_
    exact k_X6_mark_17 X r h
  · replace h := h.2 c_4
    refine v_iload_n X 2 dX6_mark_7 rfl rfl ?_
    refine v_iconst X dX6_mark_8 (v := (1 : Int32)) (by decide) ?_
    refine v_icmp_lt X (tgt := 17) dX6_mark_9 (by decide) (fun c_9 => ?_) (fun c_9 => ?_)
    · replace h := h.1 c_9
      refine v_lv (lv' := []) [] rfl ?_
      exact k_X6_mark_17 X r h
    · replace h := h.2 c_9
      refine v_iload_n X 2 dX6_mark_12 rfl rfl ?_
      refine v_iconst X dX6_mark_13 (v := (3 : Int32)) (by decide) ?_
      refine v_icmp_le X (tgt := 19) dX6_mark_14 (by decide) (fun c_14 => ?_) (fun c_14 => ?_)
      · replace h := h.1 c_14
        refine v_aload_n X 0 dX6_mark_19 rfl rfl ?_
        refine v_get X 0 0 (F := TX6) (N := 13) iX6_mark_X6 rfl rfl (by decide) (List.mem_of_getElem? (i := 1) rfl) rfl rfl dX6_mark_20 ?_
        refine v_iload_n X 1 dX6_mark_23 rfl rfl ?_
        refine v_aald X 4 2 rfl rfl h.1 h.2.1 dX6_mark_24 ?_
        replace h := h.2.2
        refine v_astore_n X (lv' := [(3, .ref o_W), (0, .ref o_p0), (1, .int x_1), (2, .int x_2)]) dX6_mark_25 rfl (by decide) rfl ?_
        refine v_aload_n X 0 dX6_mark_26 rfl rfl ?_
        refine v_getN X 1 3 (F := TX5) (N := 8) iX6_mark_X5 rfl rfl (by decide) (List.mem_of_getElem? (i := 23) rfl) rfl rfl dX6_mark_27 ?_
        refine v_if_ne X (tgt := 39) dX6_mark_30 (by decide) (fun c_30 => ?_) (fun c_30 => ?_)
        · replace h := h.1 c_30
          refine v_aload_n X 0 dX6_mark_39 rfl rfl ?_
          refine v_getN X 1 4 (F := TX5) (N := 8) iX6_mark_X5 rfl rfl (by decide) (List.mem_of_getElem? (i := 24) rfl) rfl rfl dX6_mark_40 ?_
          refine v_iload_n X 3 dX6_mark_43 rfl rfl ?_
          refine v_icmp_eq X (tgt := 53) dX6_mark_44 (by decide) (fun c_44 => ?_) (fun c_44 => ?_)
          · replace h := h.1 c_44
            refine v_iload_n X 3 dX6_mark_53 rfl rfl ?_
            refine v_iconst X dX6_mark_54 (v := (3 : Int32)) (by decide) ?_
            refine v_icmp_ne X (tgt := 70) dX6_mark_55 (by decide) (fun c_55 => ?_) (fun c_55 => ?_)
            · replace h := h.1 c_55
              refine v_aload_n X 0 dX6_mark_70 rfl rfl ?_
              refine v_getN X 1 5 (F := TX5) (N := 8) iX6_mark_X5 rfl rfl (by decide) (List.mem_of_getElem? (i := 25) rfl) rfl rfl dX6_mark_71 ?_
              refine v_lv (lv' := []) [] rfl ?_
              exact k_X6_mark_74 X r h
            · replace h := h.2 c_55
              refine v_aload_n X 0 dX6_mark_58 rfl rfl ?_
              refine v_getN X 1 1 (F := TX5) (N := 8) iX6_mark_X5 rfl rfl (by decide) (List.mem_of_getElem? (i := 19) rfl) rfl rfl dX6_mark_59 ?_
              refine v_iconst X dX6_mark_62 (v := (0 : Int32)) (by decide) ?_
              refine v_lald X 2 1 rfl rfl h.1 dX6_mark_63 ?_
              replace h := h.2
              refine v_callSi0 X (As := [.long (s_W_through ((0 : Int32)).toNatClampNeg)]) (rest := []) 1 (c_J13_bitCount_95d88 (l := vl E) (D := vD E) (T := T) (x_0 := (s_W_through ((0 : Int32)).toNatClampNeg)) h) gX6_mark_J13_bitCount_95d88 rfl rfl (by decide +kernel) ⟨Nat.zero_le _, Nat.zero_le _⟩ ⟨rfl, rfl, by decide, by decide⟩ (Nat.le_of_ble_eq_true rfl) rfl dX6_mark_64 (fun r_64 h => ?_)
              refine v_goto X (tgt := 74) dX6_mark_67 (by decide) ?_
              refine v_lv (lv' := []) [] rfl ?_
              exact k_X6_mark_74 X r h
          · replace h := h.2 c_44
            refine v_aload_n X 1 dX6_mark_47 rfl rfl ?_
            refine v_iconst X dX6_mark_48 (v := (3 : Int32)) (by decide) ?_
            refine v_callVi X (As := [.int (3 : Int32)]) (rest := []) 1 0 (c_X6_refused (l := vl E) (D := vD E) (T := T) (o_p0 := o_p0) (a_p0 := a_p0) (o_S := o_S) (s_p0_sentSize := s_p0_sentSize) (s_p0_latestFinding := s_p0_latestFinding) (s_p0_latestTries := s_p0_latestTries) (s_p0_latestAsked := s_p0_latestAsked) (s_p0_findingTimes := s_p0_findingTimes) (x_1 := (3 : Int32)) h) gX6_mark_X6_refused rfl rfl (by decide +kernel) ⟨Nat.zero_le _, Nat.zero_le _⟩ ⟨rfl, rfl, by decide, by decide⟩ (Nat.le_of_ble_eq_true rfl) rfl rfl (wr := [vO o_W 2 [.ref (a_W 0), .ref (a_W 1), .ref (a_W 2), .int s_W_there, .int s_W_kind, .int s_W_tag, .int s_W_size, .int s_W_lineCount], vJ T (a_W 1) 45 s_W_through, vR T 2 (a_p0 0) 6 s_p0_worlds]) [0, 3] [1, 2, 4] rfl rfl rfl rfl (by decide) rfl dX6_mark_49 (fun r_49 u h => ?_)
            obtain ⟨u_49_0, u_49_1⟩ := u
            dsimp only at h
            refine v_ws (ws' := (cl_X6_mark T o_p0 a_p0 o_S o_W a_W s_p0_sentSize u_49_0 s_p0_latestTries s_p0_latestAsked s_W_there s_W_kind s_W_tag s_W_size s_W_lineCount s_W_through u_49_1 s_p0_worlds)) [3, 0, 1, 4, 2] rfl rfl ?_
            exact r _ _ _ (u_49_0, u_49_1) _ dX6_mark_52 h rfl
        · replace h := h.2 c_30
          refine v_aload_n X 1 dX6_mark_33 rfl rfl ?_
          refine v_iconst X dX6_mark_34 (v := (1 : Int32)) (by decide) ?_
          refine v_callVi X (As := [.int (1 : Int32)]) (rest := []) 1 0 (c_X6_refused (l := vl E) (D := vD E) (T := T) (o_p0 := o_p0) (a_p0 := a_p0) (o_S := o_S) (s_p0_sentSize := s_p0_sentSize) (s_p0_latestFinding := s_p0_latestFinding) (s_p0_latestTries := s_p0_latestTries) (s_p0_latestAsked := s_p0_latestAsked) (s_p0_findingTimes := s_p0_findingTimes) (x_1 := (1 : Int32)) h) gX6_mark_X6_refused rfl rfl (by decide +kernel) ⟨Nat.zero_le _, Nat.zero_le _⟩ ⟨rfl, rfl, by decide, by decide⟩ (Nat.le_of_ble_eq_true rfl) rfl rfl (wr := [vO o_W 2 [.ref (a_W 0), .ref (a_W 1), .ref (a_W 2), .int s_W_there, .int s_W_kind, .int s_W_tag, .int s_W_size, .int s_W_lineCount], vJ T (a_W 1) 45 s_W_through, vR T 2 (a_p0 0) 6 s_p0_worlds]) [0, 3] [1, 2, 4] rfl rfl rfl rfl (by decide) rfl dX6_mark_35 (fun r_35 u h => ?_)
          obtain ⟨u_35_0, u_35_1⟩ := u
          dsimp only at h
          refine v_ws (ws' := (cl_X6_mark T o_p0 a_p0 o_S o_W a_W s_p0_sentSize u_35_0 s_p0_latestTries s_p0_latestAsked s_W_there s_W_kind s_W_tag s_W_size s_W_lineCount s_W_through u_35_1 s_p0_worlds)) [3, 0, 1, 4, 2] rfl rfl ?_
          exact r _ _ _ (u_35_0, u_35_1) _ dX6_mark_38 h rfl
      · replace h := h.2 c_14
        refine v_lv (lv' := []) [] rfl ?_
        exact k_X6_mark_17 X r h
-- X6_askedSet
abbrev cl_X6_askedSet (T : Nat → ClassId) (o_p0 : Nat) (a_p0 : Nat → Nat) (o_S : Nat) (s_p0_sentSize : Int32) (s_p0_latestFinding : Int32) (s_p0_latestTries : Int32) (s_p0_latestAsked : Int64) : va_W := [vO o_p0 3 [.ref (a_p0 0), .ref (a_p0 1), .ref (a_p0 2), .ref (a_p0 3), .ref (a_p0 4), .ref (a_p0 5), .ref (a_p0 6), .ref (a_p0 7), .ref o_S, .int s_p0_sentSize, .int s_p0_latestFinding, .int s_p0_latestTries, .long s_p0_latestAsked]]
abbrev r_X6_askedSet (E : vE) (T : Nat → ClassId) (o_p0 : Nat) (a_p0 : Nat → Nat) (o_S : Nat) (s_p0_sentSize : Int32) (s_p0_latestFinding : Int32) (s_p0_latestTries : Int32) (Q : Int32 → (Int64) → Prop) : Prop := vRi E cX6_askedSet (fun v (u : (Int64)) => Q v u) (fun (u : (Int64)) => (cl_X6_askedSet T o_p0 a_p0 o_S s_p0_sentSize s_p0_latestFinding s_p0_latestTries u))
def w_X6_askedSet (x_1 : Int64) (s_p0_latestAsked : Int64) (Q : Int32 → (Int64) → Prop) : Prop := (w_J13_bitCount_95d88 x_1 (fun (r_6 : Int32) => (Q r_6 x_1)))
-- X6_askedSet
theorem iX6_askedSet_X6 : ∀ w ∈ wsX60, w ∈ wsX6_askedSet := by decide +kernel
set_option maxHeartbeats 4000000 in
set_option maxRecDepth 100000 in
theorem c_X6_askedSet {l : Launch} {D : va_G} {T : Nat → ClassId} {o_p0 : Nat} {a_p0 : Nat → Nat} {o_S : Nat} {s_p0_sentSize : Int32} {s_p0_latestFinding : Int32} {s_p0_latestTries : Int32} {s_p0_latestAsked : Int64} {x_1 : Int64} {Q : Int32 → (Int64) → Prop} (h : w_X6_askedSet x_1 s_p0_latestAsked Q) : vCi l D (vT T) yX6_askedSet wsX6_askedSet (vr 1 21) [.ref o_p0, .long x_1] (cl_X6_askedSet T o_p0 a_p0 o_S s_p0_sentSize s_p0_latestFinding s_p0_latestTries s_p0_latestAsked) (fun v (u : (Int64)) => Q v u) (fun (u : (Int64)) => (cl_X6_askedSet T o_p0 a_p0 o_S s_p0_sentSize s_p0_latestFinding s_p0_latestTries u)) := by
  refine vC_i (cc := cX6_askedSet) (nL := 3) (by decide +kernel) rfl ⟨rfl, rfl⟩ (Nat.le_of_ble_eq_true rfl) rfl ?_
  intro E el eD X r
  unfold w_X6_askedSet at h
  refine v_aload_n X 0 dX6_askedSet_0 rfl rfl ?_
  refine v_lload_n X 1 dX6_askedSet_1 rfl rfl ?_
  refine v_put X (ws' := (cl_X6_askedSet T o_p0 a_p0 o_S s_p0_sentSize s_p0_latestFinding s_p0_latestTries x_1)) 0 12 (F := TX6) (N := 13) iX6_askedSet_X6 rfl tyX6 tyX6_ok nmX6 rfl (by decide) (List.mem_of_getElem? (i := 1) rfl) rfl rfl rfl rfl rfl (Nat.le_of_ble_eq_true rfl) rfl dX6_askedSet_2 ?_
  refine v_lload_n X 1 dX6_askedSet_5 rfl rfl ?_
  refine v_callSi0 X (As := [.long x_1]) (rest := []) 1 (c_J13_bitCount_95d88 (l := vl E) (D := vD E) (T := T) (x_0 := x_1) h) gX6_askedSet_J13_bitCount_95d88 rfl rfl (by decide +kernel) ⟨Nat.zero_le _, Nat.zero_le _⟩ ⟨rfl, rfl, by decide, by decide⟩ (Nat.le_of_ble_eq_true rfl) rfl dX6_askedSet_6 (fun r_6 h => ?_)
  exact r _ _ _ (x_1) _ dX6_askedSet_9 h rfl
-- X6_points
abbrev cl_X6_points (T : Nat → ClassId) (o_p0 : Nat) (a_p0 : Nat → Nat) (o_S : Nat) (o_W : Nat) (a_W : Nat → Nat) (s_p0_sentSize : Int32) (s_p0_latestFinding : Int32) (s_p0_latestTries : Int32) (s_p0_latestAsked : Int64) (s_W_there : Int32) (s_W_kind : Int32) (s_W_tag : Int32) (s_W_size : Int32) (s_W_lineCount : Int32) (s_W_sets : Nat → Int64) (s_p0_findingTimes : Nat → Int32) (s_p0_worlds : Nat → Option Nat) : va_W := [vO o_p0 3 [.ref (a_p0 0), .ref (a_p0 1), .ref (a_p0 2), .ref (a_p0 3), .ref (a_p0 4), .ref (a_p0 5), .ref (a_p0 6), .ref (a_p0 7), .ref o_S, .int s_p0_sentSize, .int s_p0_latestFinding, .int s_p0_latestTries, .long s_p0_latestAsked], vO o_W 2 [.ref (a_W 0), .ref (a_W 1), .ref (a_W 2), .int s_W_there, .int s_W_kind, .int s_W_tag, .int s_W_size, .int s_W_lineCount], vJ T (a_W 0) 45 s_W_sets, vI T (a_p0 3) 6 s_p0_findingTimes, vR T 2 (a_p0 0) 6 s_p0_worlds]
abbrev r_X6_points (E : vE) (T : Nat → ClassId) (o_p0 : Nat) (a_p0 : Nat → Nat) (o_S : Nat) (o_W : Nat) (a_W : Nat → Nat) (s_p0_sentSize : Int32) (s_p0_latestTries : Int32) (s_W_there : Int32) (s_W_kind : Int32) (s_W_tag : Int32) (s_W_size : Int32) (s_W_lineCount : Int32) (s_W_sets : Nat → Int64) (s_p0_worlds : Nat → Option Nat) (Q : Int32 → (Int32) → (Int64) → (Nat → Int32) → Prop) : Prop := vRi E cX6_points (fun v (u : (Int32) × (Int64) × (Nat → Int32)) => Q v u.1 u.2.1 u.2.2) (fun (u : (Int32) × (Int64) × (Nat → Int32)) => (cl_X6_points T o_p0 a_p0 o_S o_W a_W s_p0_sentSize u.1 s_p0_latestTries u.2.1 s_W_there s_W_kind s_W_tag s_W_size s_W_lineCount s_W_sets u.2.2 s_p0_worlds))
def w_X6_points_41 (s_p0_latestFinding : Int32) (s_p0_latestAsked : Int64) (s_W_there : Int32) (s_W_lineCount : Int32) (s_W_sets : Nat → Int64) (s_p0_findingTimes : Nat → Int32) (s_p0_worlds : Nat → Option Nat) (o_W : Nat) (Q : Int32 → (Int32) → (Int64) → (Nat → Int32) → Prop) : Prop := (w_X6_refused (2 : Int32) s_p0_latestFinding s_p0_findingTimes (fun (r_43 : Int32) (u_43_0 : Int32) (u_43_1 : Nat → Int32) => (Q r_43 u_43_0 s_p0_latestAsked u_43_1)))
def w_X6_points (x_1 : Int32) (x_2 : Int32) (s_p0_latestFinding : Int32) (s_p0_latestAsked : Int64) (s_W_there : Int32) (s_W_lineCount : Int32) (s_W_sets : Nat → Int64) (s_p0_findingTimes : Nat → Int32) (s_p0_worlds : Nat → Option Nat) (o_W : Nat) (Q : Int32 → (Int32) → (Int64) → (Nat → Int32) → Prop) : Prop := (w_X6_isWorldNumber x_1 (fun (r_1 : Int32) => ((¬ r_1 = 0 → (vp_in x_1 6 ∧ s_p0_worlds (x_1).toNatClampNeg = some o_W ∧ ((¬ s_W_there = 0 → ((x_2 < 0 → (w_X6_points_41 s_p0_latestFinding s_p0_latestAsked s_W_there s_W_lineCount s_W_sets s_p0_findingTimes s_p0_worlds o_W Q)) ∧ (¬ x_2 < 0 → ((x_2 < s_W_lineCount → (vp_in x_2 45 ∧ (w_X6_askedSet (s_W_sets (x_2).toNatClampNeg) s_p0_latestAsked (fun (r_54 : Int32) (u_54_0 : Int64) => (Q r_54 s_p0_latestFinding u_54_0 s_p0_findingTimes))))) ∧ (¬ x_2 < s_W_lineCount → (w_X6_points_41 s_p0_latestFinding s_p0_latestAsked s_W_there s_W_lineCount s_W_sets s_p0_findingTimes s_p0_worlds o_W Q)))))) ∧ (s_W_there = 0 → (w_X6_refused (1 : Int32) s_p0_latestFinding s_p0_findingTimes (fun (r_25 : Int32) (u_25_0 : Int32) (u_25_1 : Nat → Int32) => (Q r_25 u_25_0 s_p0_latestAsked u_25_1))))))) ∧ (r_1 = 0 → (Q (-1 : Int32) s_p0_latestFinding s_p0_latestAsked s_p0_findingTimes)))))
-- X6_points
theorem iX6_points_X5 : ∀ w ∈ wsX50, w ∈ wsX6_points := by decide +kernel
theorem iX6_points_X6 : ∀ w ∈ wsX60, w ∈ wsX6_points := by decide +kernel
set_option maxHeartbeats 4000000 in
set_option maxRecDepth 100000 in
theorem k_X6_points_41 {E : vE} {T : Nat → ClassId} {o_p0 : Nat} {a_p0 : Nat → Nat} {o_S : Nat} {o_W : Nat} {a_W : Nat → Nat} {s_p0_sentSize : Int32} {s_p0_latestFinding : Int32} {s_p0_latestTries : Int32} {s_p0_latestAsked : Int64} {s_W_there : Int32} {s_W_kind : Int32} {s_W_tag : Int32} {s_W_size : Int32} {s_W_lineCount : Int32} {s_W_sets : Nat → Int64} {s_p0_findingTimes : Nat → Int32} {s_p0_worlds : Nat → Option Nat} {Q : Int32 → (Int32) → (Int64) → (Nat → Int32) → Prop} (X : vX E cX6_points 4 RX6 wsX6_points (vT T) (vr 2 43)) (r : r_X6_points E T o_p0 a_p0 o_S o_W a_W s_p0_sentSize s_p0_latestTries s_W_there s_W_kind s_W_tag s_W_size s_W_lineCount s_W_sets s_p0_worlds Q) (h : w_X6_points_41 s_p0_latestFinding s_p0_latestAsked s_W_there s_W_lineCount s_W_sets s_p0_findingTimes s_p0_worlds o_W Q) : V E 0 0 41 [(0, .ref o_p0)] [] (cl_X6_points T o_p0 a_p0 o_S o_W a_W s_p0_sentSize s_p0_latestFinding s_p0_latestTries s_p0_latestAsked s_W_there s_W_kind s_W_tag s_W_size s_W_lineCount s_W_sets s_p0_findingTimes s_p0_worlds) := by
  unfold w_X6_points_41 at h
  refine v_aload_n X 0 dX6_points_41 rfl rfl ?_
  refine v_iconst X dX6_points_42 (v := (2 : Int32)) (by decide) ?_
  refine v_callVi X (As := [.int (2 : Int32)]) (rest := []) 1 0 (c_X6_refused (l := vl E) (D := vD E) (T := T) (o_p0 := o_p0) (a_p0 := a_p0) (o_S := o_S) (s_p0_sentSize := s_p0_sentSize) (s_p0_latestFinding := s_p0_latestFinding) (s_p0_latestTries := s_p0_latestTries) (s_p0_latestAsked := s_p0_latestAsked) (s_p0_findingTimes := s_p0_findingTimes) (x_1 := (2 : Int32)) h) gX6_points_X6_refused rfl rfl (by decide +kernel) ⟨Nat.zero_le _, Nat.zero_le _⟩ ⟨rfl, rfl, by decide, by decide⟩ (Nat.le_of_ble_eq_true rfl) rfl rfl (wr := [vO o_W 2 [.ref (a_W 0), .ref (a_W 1), .ref (a_W 2), .int s_W_there, .int s_W_kind, .int s_W_tag, .int s_W_size, .int s_W_lineCount], vJ T (a_W 0) 45 s_W_sets, vR T 2 (a_p0 0) 6 s_p0_worlds]) [0, 3] [1, 2, 4] rfl rfl rfl rfl (by decide) rfl dX6_points_43 (fun r_43 u h => ?_)
  obtain ⟨u_43_0, u_43_1⟩ := u
  dsimp only at h
  refine v_ws (ws' := (cl_X6_points T o_p0 a_p0 o_S o_W a_W s_p0_sentSize u_43_0 s_p0_latestTries s_p0_latestAsked s_W_there s_W_kind s_W_tag s_W_size s_W_lineCount s_W_sets u_43_1 s_p0_worlds)) [3, 0, 1, 4, 2] rfl rfl ?_
  exact r _ _ _ (u_43_0, s_p0_latestAsked, u_43_1) _ dX6_points_46 h rfl
set_option maxHeartbeats 4000000 in
set_option maxRecDepth 100000 in
theorem c_X6_points {l : Launch} {D : va_G} {T : Nat → ClassId} {o_p0 : Nat} {a_p0 : Nat → Nat} {o_S : Nat} {o_W : Nat} {a_W : Nat → Nat} {s_p0_sentSize : Int32} {s_p0_latestFinding : Int32} {s_p0_latestTries : Int32} {s_p0_latestAsked : Int64} {s_W_there : Int32} {s_W_kind : Int32} {s_W_tag : Int32} {s_W_size : Int32} {s_W_lineCount : Int32} {s_W_sets : Nat → Int64} {s_p0_findingTimes : Nat → Int32} {s_p0_worlds : Nat → Option Nat} {x_1 : Int32} {x_2 : Int32} {Q : Int32 → (Int32) → (Int64) → (Nat → Int32) → Prop} (h : w_X6_points x_1 x_2 s_p0_latestFinding s_p0_latestAsked s_W_there s_W_lineCount s_W_sets s_p0_findingTimes s_p0_worlds o_W Q) : vCi l D (vT T) yX6_points wsX6_points (vr 2 43) [.ref o_p0, .int x_1, .int x_2] (cl_X6_points T o_p0 a_p0 o_S o_W a_W s_p0_sentSize s_p0_latestFinding s_p0_latestTries s_p0_latestAsked s_W_there s_W_kind s_W_tag s_W_size s_W_lineCount s_W_sets s_p0_findingTimes s_p0_worlds) (fun v (u : (Int32) × (Int64) × (Nat → Int32)) => Q v u.1 u.2.1 u.2.2) (fun (u : (Int32) × (Int64) × (Nat → Int32)) => (cl_X6_points T o_p0 a_p0 o_S o_W a_W s_p0_sentSize u.1 s_p0_latestTries u.2.1 s_W_there s_W_kind s_W_tag s_W_size s_W_lineCount s_W_sets u.2.2 s_p0_worlds)) := by
  refine vC_i (cc := cX6_points) (nL := 4) (by decide +kernel) rfl ⟨rfl, rfl⟩ (Nat.le_of_ble_eq_true rfl) rfl ?_
  intro E el eD X r
  unfold w_X6_points at h
  refine v_iload_n X 1 dX6_points_0 rfl rfl ?_
  refine v_callSi0 X (As := [.int x_1]) (rest := []) 1 (c_X6_isWorldNumber (l := vl E) (D := vD E) (T := T) (x_0 := x_1) h) gX6_points_X6_isWorldNumber rfl rfl (by decide +kernel) ⟨Nat.zero_le _, Nat.zero_le _⟩ ⟨rfl, rfl, by decide, by decide⟩ (Nat.le_of_ble_eq_true rfl) rfl dX6_points_1 (fun r_1 h => ?_)
  refine v_if_ne X (tgt := 9) dX6_points_4 (by decide) (fun c_4 => ?_) (fun c_4 => ?_)
  · replace h := h.1 c_4
    refine v_aload_n X 0 dX6_points_9 rfl rfl ?_
    refine v_get X 0 0 (F := TX6) (N := 13) iX6_points_X6 rfl rfl (by decide) (List.mem_of_getElem? (i := 1) rfl) rfl rfl dX6_points_10 ?_
    refine v_iload_n X 1 dX6_points_13 rfl rfl ?_
    refine v_aald X 4 2 rfl rfl h.1 h.2.1 dX6_points_14 ?_
    replace h := h.2.2
    refine v_astore_n X (lv' := [(3, .ref o_W), (0, .ref o_p0), (1, .int x_1), (2, .int x_2)]) dX6_points_15 rfl (by decide) rfl ?_
    refine v_aload_n X 0 dX6_points_16 rfl rfl ?_
    refine v_getN X 1 3 (F := TX5) (N := 8) iX6_points_X5 rfl rfl (by decide) (List.mem_of_getElem? (i := 23) rfl) rfl rfl dX6_points_17 ?_
    refine v_if_ne X (tgt := 29) dX6_points_20 (by decide) (fun c_20 => ?_) (fun c_20 => ?_)
    · replace h := h.1 c_20
      refine v_iload_n X 3 dX6_points_29 rfl rfl ?_
      refine v_if_lt X (tgt := 41) dX6_points_30 (by decide) (fun c_30 => ?_) (fun c_30 => ?_)
      · replace h := h.1 c_30
        refine v_lv (lv' := [(0, .ref o_p0)]) [1] rfl ?_
        exact k_X6_points_41 X r h
      · replace h := h.2 c_30
        refine v_iload_n X 3 dX6_points_33 rfl rfl ?_
        refine v_aload_n X 0 dX6_points_34 rfl rfl ?_
        refine v_getN X 1 7 (F := TX5) (N := 8) iX6_points_X5 rfl rfl (by decide) (List.mem_of_getElem? (i := 33) rfl) rfl rfl dX6_points_35 ?_
        refine v_icmp_lt X (tgt := 47) dX6_points_38 (by decide) (fun c_38 => ?_) (fun c_38 => ?_)
        · replace h := h.1 c_38
          refine v_aload_n X 1 dX6_points_47 rfl rfl ?_
          refine v_aload_n X 0 dX6_points_48 rfl rfl ?_
          refine v_getN X 1 0 (F := TX5) (N := 8) iX6_points_X5 rfl rfl (by decide) (List.mem_of_getElem? (i := 15) rfl) rfl rfl dX6_points_49 ?_
          refine v_iload_n X 3 dX6_points_52 rfl rfl ?_
          refine v_lald X 2 1 rfl rfl h.1 dX6_points_53 ?_
          replace h := h.2
          refine v_callVi X (As := [.long (s_W_sets (x_2).toNatClampNeg)]) (rest := []) 1 0 (c_X6_askedSet (l := vl E) (D := vD E) (T := T) (o_p0 := o_p0) (a_p0 := a_p0) (o_S := o_S) (s_p0_sentSize := s_p0_sentSize) (s_p0_latestFinding := s_p0_latestFinding) (s_p0_latestTries := s_p0_latestTries) (s_p0_latestAsked := s_p0_latestAsked) (x_1 := (s_W_sets (x_2).toNatClampNeg)) h) gX6_points_X6_askedSet rfl rfl (by decide +kernel) ⟨Nat.zero_le _, Nat.zero_le _⟩ ⟨rfl, rfl, by decide, by decide⟩ (Nat.le_of_ble_eq_true rfl) rfl rfl (wr := [vO o_W 2 [.ref (a_W 0), .ref (a_W 1), .ref (a_W 2), .int s_W_there, .int s_W_kind, .int s_W_tag, .int s_W_size, .int s_W_lineCount], vJ T (a_W 0) 45 s_W_sets, vI T (a_p0 3) 6 s_p0_findingTimes, vR T 2 (a_p0 0) 6 s_p0_worlds]) [0] [1, 2, 3, 4] rfl rfl rfl rfl (by decide) rfl dX6_points_54 (fun r_54 u h => ?_)
          obtain ⟨u_54_0, rfl⟩ : ∃ z, z = u := ⟨_, rfl⟩
          refine v_ws (ws' := (cl_X6_points T o_p0 a_p0 o_S o_W a_W s_p0_sentSize s_p0_latestFinding s_p0_latestTries u_54_0 s_W_there s_W_kind s_W_tag s_W_size s_W_lineCount s_W_sets s_p0_findingTimes s_p0_worlds)) [4, 0, 1, 2, 3] rfl rfl ?_
          exact r _ _ _ (s_p0_latestFinding, u_54_0, s_p0_findingTimes) _ dX6_points_57 h rfl
        · replace h := h.2 c_38
          refine v_lv (lv' := [(0, .ref o_p0)]) [1] rfl ?_
          exact k_X6_points_41 X r h
    · replace h := h.2 c_20
      refine v_aload_n X 1 dX6_points_23 rfl rfl ?_
      refine v_iconst X dX6_points_24 (v := (1 : Int32)) (by decide) ?_
      refine v_callVi X (As := [.int (1 : Int32)]) (rest := []) 1 0 (c_X6_refused (l := vl E) (D := vD E) (T := T) (o_p0 := o_p0) (a_p0 := a_p0) (o_S := o_S) (s_p0_sentSize := s_p0_sentSize) (s_p0_latestFinding := s_p0_latestFinding) (s_p0_latestTries := s_p0_latestTries) (s_p0_latestAsked := s_p0_latestAsked) (s_p0_findingTimes := s_p0_findingTimes) (x_1 := (1 : Int32)) h) gX6_points_X6_refused rfl rfl (by decide +kernel) ⟨Nat.zero_le _, Nat.zero_le _⟩ ⟨rfl, rfl, by decide, by decide⟩ (Nat.le_of_ble_eq_true rfl) rfl rfl (wr := [vO o_W 2 [.ref (a_W 0), .ref (a_W 1), .ref (a_W 2), .int s_W_there, .int s_W_kind, .int s_W_tag, .int s_W_size, .int s_W_lineCount], vJ T (a_W 0) 45 s_W_sets, vR T 2 (a_p0 0) 6 s_p0_worlds]) [0, 3] [1, 2, 4] rfl rfl rfl rfl (by decide) rfl dX6_points_25 (fun r_25 u h => ?_)
      obtain ⟨u_25_0, u_25_1⟩ := u
      dsimp only at h
      refine v_ws (ws' := (cl_X6_points T o_p0 a_p0 o_S o_W a_W s_p0_sentSize u_25_0 s_p0_latestTries s_p0_latestAsked s_W_there s_W_kind s_W_tag s_W_size s_W_lineCount s_W_sets u_25_1 s_p0_worlds)) [3, 0, 1, 4, 2] rfl rfl ?_
      exact r _ _ _ (u_25_0, s_p0_latestAsked, u_25_1) _ dX6_points_28 h rfl
  · replace h := h.2 c_4
    refine v_iconst X dX6_points_7 (v := (-1 : Int32)) (by decide) ?_
    exact r _ _ _ (s_p0_latestFinding, s_p0_latestAsked, s_p0_findingTimes) _ dX6_points_8 h rfl
-- X6_lines
abbrev cl_X6_lines (T : Nat → ClassId) (o_p0 : Nat) (a_p0 : Nat → Nat) (o_S : Nat) (o_W : Nat) (a_W : Nat → Nat) (s_p0_sentSize : Int32) (s_p0_latestFinding : Int32) (s_p0_latestTries : Int32) (s_p0_latestAsked : Int64) (s_W_there : Int32) (s_W_kind : Int32) (s_W_tag : Int32) (s_W_size : Int32) (s_W_lineCount : Int32) (s_W_through : Nat → Int64) (s_p0_findingTimes : Nat → Int32) (s_p0_worlds : Nat → Option Nat) : va_W := [vO o_p0 3 [.ref (a_p0 0), .ref (a_p0 1), .ref (a_p0 2), .ref (a_p0 3), .ref (a_p0 4), .ref (a_p0 5), .ref (a_p0 6), .ref (a_p0 7), .ref o_S, .int s_p0_sentSize, .int s_p0_latestFinding, .int s_p0_latestTries, .long s_p0_latestAsked], vO o_W 2 [.ref (a_W 0), .ref (a_W 1), .ref (a_W 2), .int s_W_there, .int s_W_kind, .int s_W_tag, .int s_W_size, .int s_W_lineCount], vJ T (a_W 1) 45 s_W_through, vI T (a_p0 3) 6 s_p0_findingTimes, vR T 2 (a_p0 0) 6 s_p0_worlds]
abbrev r_X6_lines (E : vE) (T : Nat → ClassId) (o_p0 : Nat) (a_p0 : Nat → Nat) (o_S : Nat) (o_W : Nat) (a_W : Nat → Nat) (s_p0_sentSize : Int32) (s_p0_latestTries : Int32) (s_W_there : Int32) (s_W_kind : Int32) (s_W_tag : Int32) (s_W_size : Int32) (s_W_lineCount : Int32) (s_W_through : Nat → Int64) (s_p0_worlds : Nat → Option Nat) (Q : Int32 → (Int32) → (Int64) → (Nat → Int32) → Prop) : Prop := vRi E cX6_lines (fun v (u : (Int32) × (Int64) × (Nat → Int32)) => Q v u.1 u.2.1 u.2.2) (fun (u : (Int32) × (Int64) × (Nat → Int32)) => (cl_X6_lines T o_p0 a_p0 o_S o_W a_W s_p0_sentSize u.1 s_p0_latestTries u.2.1 s_W_there s_W_kind s_W_tag s_W_size s_W_lineCount s_W_through u.2.2 s_p0_worlds))
def w_X6_lines (x_1 : Int32) (x_2 : Int32) (s_p0_latestFinding : Int32) (s_p0_latestAsked : Int64) (s_W_there : Int32) (s_W_size : Int32) (s_W_through : Nat → Int64) (s_p0_findingTimes : Nat → Int32) (s_p0_worlds : Nat → Option Nat) (o_W : Nat) (Q : Int32 → (Int32) → (Int64) → (Nat → Int32) → Prop) : Prop := (w_X6_isWorldNumber x_1 (fun (r_1 : Int32) => ((¬ r_1 = 0 → (vp_in x_1 6 ∧ s_p0_worlds (x_1).toNatClampNeg = some o_W ∧ ((¬ s_W_there = 0 → (w_X5_hasPoint x_2 s_W_size (fun (r_31 : Int32) => ((¬ r_31 = 0 → (vp_in x_2 45 ∧ (w_X6_askedSet (s_W_through (x_2).toNatClampNeg) s_p0_latestAsked (fun (r_50 : Int32) (u_50_0 : Int64) => (Q r_50 s_p0_latestFinding u_50_0 s_p0_findingTimes))))) ∧ (r_31 = 0 → (w_X6_refused (2 : Int32) s_p0_latestFinding s_p0_findingTimes (fun (r_39 : Int32) (u_39_0 : Int32) (u_39_1 : Nat → Int32) => (Q r_39 u_39_0 s_p0_latestAsked u_39_1)))))))) ∧ (s_W_there = 0 → (w_X6_refused (1 : Int32) s_p0_latestFinding s_p0_findingTimes (fun (r_25 : Int32) (u_25_0 : Int32) (u_25_1 : Nat → Int32) => (Q r_25 u_25_0 s_p0_latestAsked u_25_1))))))) ∧ (r_1 = 0 → (Q (-1 : Int32) s_p0_latestFinding s_p0_latestAsked s_p0_findingTimes)))))
-- X6_lines
theorem iX6_lines_X5 : ∀ w ∈ wsX50, w ∈ wsX6_lines := by decide +kernel
theorem iX6_lines_X6 : ∀ w ∈ wsX60, w ∈ wsX6_lines := by decide +kernel
set_option maxHeartbeats 4000000 in
set_option maxRecDepth 100000 in
theorem c_X6_lines {l : Launch} {D : va_G} {T : Nat → ClassId} {o_p0 : Nat} {a_p0 : Nat → Nat} {o_S : Nat} {o_W : Nat} {a_W : Nat → Nat} {s_p0_sentSize : Int32} {s_p0_latestFinding : Int32} {s_p0_latestTries : Int32} {s_p0_latestAsked : Int64} {s_W_there : Int32} {s_W_kind : Int32} {s_W_tag : Int32} {s_W_size : Int32} {s_W_lineCount : Int32} {s_W_through : Nat → Int64} {s_p0_findingTimes : Nat → Int32} {s_p0_worlds : Nat → Option Nat} {x_1 : Int32} {x_2 : Int32} {Q : Int32 → (Int32) → (Int64) → (Nat → Int32) → Prop} (h : w_X6_lines x_1 x_2 s_p0_latestFinding s_p0_latestAsked s_W_there s_W_size s_W_through s_p0_findingTimes s_p0_worlds o_W Q) : vCi l D (vT T) yX6_lines wsX6_lines (vr 2 43) [.ref o_p0, .int x_1, .int x_2] (cl_X6_lines T o_p0 a_p0 o_S o_W a_W s_p0_sentSize s_p0_latestFinding s_p0_latestTries s_p0_latestAsked s_W_there s_W_kind s_W_tag s_W_size s_W_lineCount s_W_through s_p0_findingTimes s_p0_worlds) (fun v (u : (Int32) × (Int64) × (Nat → Int32)) => Q v u.1 u.2.1 u.2.2) (fun (u : (Int32) × (Int64) × (Nat → Int32)) => (cl_X6_lines T o_p0 a_p0 o_S o_W a_W s_p0_sentSize u.1 s_p0_latestTries u.2.1 s_W_there s_W_kind s_W_tag s_W_size s_W_lineCount s_W_through u.2.2 s_p0_worlds)) := by
  refine vC_i (cc := cX6_lines) (nL := 4) (by decide +kernel) rfl ⟨rfl, rfl⟩ (Nat.le_of_ble_eq_true rfl) rfl ?_
  intro E el eD X r
  unfold w_X6_lines at h
  refine v_iload_n X 1 dX6_lines_0 rfl rfl ?_
  refine v_callSi0 X (As := [.int x_1]) (rest := []) 1 (c_X6_isWorldNumber (l := vl E) (D := vD E) (T := T) (x_0 := x_1) h) gX6_lines_X6_isWorldNumber rfl rfl (by decide +kernel) ⟨Nat.zero_le _, Nat.zero_le _⟩ ⟨rfl, rfl, by decide, by decide⟩ (Nat.le_of_ble_eq_true rfl) rfl dX6_lines_1 (fun r_1 h => ?_)
  refine v_if_ne X (tgt := 9) dX6_lines_4 (by decide) (fun c_4 => ?_) (fun c_4 => ?_)
  · replace h := h.1 c_4
    refine v_aload_n X 0 dX6_lines_9 rfl rfl ?_
    refine v_get X 0 0 (F := TX6) (N := 13) iX6_lines_X6 rfl rfl (by decide) (List.mem_of_getElem? (i := 1) rfl) rfl rfl dX6_lines_10 ?_
    refine v_iload_n X 1 dX6_lines_13 rfl rfl ?_
    refine v_aald X 4 2 rfl rfl h.1 h.2.1 dX6_lines_14 ?_
    replace h := h.2.2
    refine v_astore_n X (lv' := [(3, .ref o_W), (0, .ref o_p0), (1, .int x_1), (2, .int x_2)]) dX6_lines_15 rfl (by decide) rfl ?_
    refine v_aload_n X 0 dX6_lines_16 rfl rfl ?_
    refine v_getN X 1 3 (F := TX5) (N := 8) iX6_lines_X5 rfl rfl (by decide) (List.mem_of_getElem? (i := 23) rfl) rfl rfl dX6_lines_17 ?_
    refine v_if_ne X (tgt := 29) dX6_lines_20 (by decide) (fun c_20 => ?_) (fun c_20 => ?_)
    · replace h := h.1 c_20
      refine v_aload_n X 0 dX6_lines_29 rfl rfl ?_
      refine v_iload_n X 3 dX6_lines_30 rfl rfl ?_
      refine v_callVi X (As := [.int x_2]) (rest := []) 1 0 (c_X5_hasPoint (l := vl E) (D := vD E) (T := T) (o_p0 := o_W) (a_p0 := a_W) (s_p0_there := s_W_there) (s_p0_kind := s_W_kind) (s_p0_tag := s_W_tag) (s_p0_size := s_W_size) (s_p0_lineCount := s_W_lineCount) (x_1 := x_2) h) gX6_lines_X5_hasPoint rfl rfl (by decide +kernel) ⟨Nat.zero_le _, Nat.zero_le _⟩ ⟨rfl, rfl, by decide, by decide⟩ (Nat.le_of_ble_eq_true rfl) rfl rfl (wr := [vO o_p0 3 [.ref (a_p0 0), .ref (a_p0 1), .ref (a_p0 2), .ref (a_p0 3), .ref (a_p0 4), .ref (a_p0 5), .ref (a_p0 6), .ref (a_p0 7), .ref o_S, .int s_p0_sentSize, .int s_p0_latestFinding, .int s_p0_latestTries, .long s_p0_latestAsked], vJ T (a_W 1) 45 s_W_through, vI T (a_p0 3) 6 s_p0_findingTimes, vR T 2 (a_p0 0) 6 s_p0_worlds]) [1] [0, 2, 3, 4] rfl rfl rfl rfl (by decide) rfl dX6_lines_31 (fun r_31 u h => ?_)
      refine v_ws (ws' := (cl_X6_lines T o_p0 a_p0 o_S o_W a_W s_p0_sentSize s_p0_latestFinding s_p0_latestTries s_p0_latestAsked s_W_there s_W_kind s_W_tag s_W_size s_W_lineCount s_W_through s_p0_findingTimes s_p0_worlds)) [0, 4, 1, 2, 3] rfl rfl ?_
      refine v_if_ne X (tgt := 43) dX6_lines_34 (by decide) (fun c_34 => ?_) (fun c_34 => ?_)
      · replace h := h.1 c_34
        refine v_aload_n X 1 dX6_lines_43 rfl rfl ?_
        refine v_aload_n X 0 dX6_lines_44 rfl rfl ?_
        refine v_getN X 1 1 (F := TX5) (N := 8) iX6_lines_X5 rfl rfl (by decide) (List.mem_of_getElem? (i := 19) rfl) rfl rfl dX6_lines_45 ?_
        refine v_iload_n X 3 dX6_lines_48 rfl rfl ?_
        refine v_lald X 2 1 rfl rfl h.1 dX6_lines_49 ?_
        replace h := h.2
        refine v_callVi X (As := [.long (s_W_through (x_2).toNatClampNeg)]) (rest := []) 1 0 (c_X6_askedSet (l := vl E) (D := vD E) (T := T) (o_p0 := o_p0) (a_p0 := a_p0) (o_S := o_S) (s_p0_sentSize := s_p0_sentSize) (s_p0_latestFinding := s_p0_latestFinding) (s_p0_latestTries := s_p0_latestTries) (s_p0_latestAsked := s_p0_latestAsked) (x_1 := (s_W_through (x_2).toNatClampNeg)) h) gX6_lines_X6_askedSet rfl rfl (by decide +kernel) ⟨Nat.zero_le _, Nat.zero_le _⟩ ⟨rfl, rfl, by decide, by decide⟩ (Nat.le_of_ble_eq_true rfl) rfl rfl (wr := [vO o_W 2 [.ref (a_W 0), .ref (a_W 1), .ref (a_W 2), .int s_W_there, .int s_W_kind, .int s_W_tag, .int s_W_size, .int s_W_lineCount], vJ T (a_W 1) 45 s_W_through, vI T (a_p0 3) 6 s_p0_findingTimes, vR T 2 (a_p0 0) 6 s_p0_worlds]) [0] [1, 2, 3, 4] rfl rfl rfl rfl (by decide) rfl dX6_lines_50 (fun r_50 u h => ?_)
        obtain ⟨u_50_0, rfl⟩ : ∃ z, z = u := ⟨_, rfl⟩
        refine v_ws (ws' := (cl_X6_lines T o_p0 a_p0 o_S o_W a_W s_p0_sentSize s_p0_latestFinding s_p0_latestTries u_50_0 s_W_there s_W_kind s_W_tag s_W_size s_W_lineCount s_W_through s_p0_findingTimes s_p0_worlds)) [4, 0, 1, 2, 3] rfl rfl ?_
        exact r _ _ _ (s_p0_latestFinding, u_50_0, s_p0_findingTimes) _ dX6_lines_53 h rfl
      · replace h := h.2 c_34
        refine v_aload_n X 1 dX6_lines_37 rfl rfl ?_
        refine v_iconst X dX6_lines_38 (v := (2 : Int32)) (by decide) ?_
        refine v_callVi X (As := [.int (2 : Int32)]) (rest := []) 1 0 (c_X6_refused (l := vl E) (D := vD E) (T := T) (o_p0 := o_p0) (a_p0 := a_p0) (o_S := o_S) (s_p0_sentSize := s_p0_sentSize) (s_p0_latestFinding := s_p0_latestFinding) (s_p0_latestTries := s_p0_latestTries) (s_p0_latestAsked := s_p0_latestAsked) (s_p0_findingTimes := s_p0_findingTimes) (x_1 := (2 : Int32)) h) gX6_lines_X6_refused rfl rfl (by decide +kernel) ⟨Nat.zero_le _, Nat.zero_le _⟩ ⟨rfl, rfl, by decide, by decide⟩ (Nat.le_of_ble_eq_true rfl) rfl rfl (wr := [vO o_W 2 [.ref (a_W 0), .ref (a_W 1), .ref (a_W 2), .int s_W_there, .int s_W_kind, .int s_W_tag, .int s_W_size, .int s_W_lineCount], vJ T (a_W 1) 45 s_W_through, vR T 2 (a_p0 0) 6 s_p0_worlds]) [0, 3] [1, 2, 4] rfl rfl rfl rfl (by decide) rfl dX6_lines_39 (fun r_39 u h => ?_)
        obtain ⟨u_39_0, u_39_1⟩ := u
        dsimp only at h
        refine v_ws (ws' := (cl_X6_lines T o_p0 a_p0 o_S o_W a_W s_p0_sentSize u_39_0 s_p0_latestTries s_p0_latestAsked s_W_there s_W_kind s_W_tag s_W_size s_W_lineCount s_W_through u_39_1 s_p0_worlds)) [3, 0, 1, 4, 2] rfl rfl ?_
        exact r _ _ _ (u_39_0, s_p0_latestAsked, u_39_1) _ dX6_lines_42 h rfl
    · replace h := h.2 c_20
      refine v_aload_n X 1 dX6_lines_23 rfl rfl ?_
      refine v_iconst X dX6_lines_24 (v := (1 : Int32)) (by decide) ?_
      refine v_callVi X (As := [.int (1 : Int32)]) (rest := []) 1 0 (c_X6_refused (l := vl E) (D := vD E) (T := T) (o_p0 := o_p0) (a_p0 := a_p0) (o_S := o_S) (s_p0_sentSize := s_p0_sentSize) (s_p0_latestFinding := s_p0_latestFinding) (s_p0_latestTries := s_p0_latestTries) (s_p0_latestAsked := s_p0_latestAsked) (s_p0_findingTimes := s_p0_findingTimes) (x_1 := (1 : Int32)) h) gX6_lines_X6_refused rfl rfl (by decide +kernel) ⟨Nat.zero_le _, Nat.zero_le _⟩ ⟨rfl, rfl, by decide, by decide⟩ (Nat.le_of_ble_eq_true rfl) rfl rfl (wr := [vO o_W 2 [.ref (a_W 0), .ref (a_W 1), .ref (a_W 2), .int s_W_there, .int s_W_kind, .int s_W_tag, .int s_W_size, .int s_W_lineCount], vJ T (a_W 1) 45 s_W_through, vR T 2 (a_p0 0) 6 s_p0_worlds]) [0, 3] [1, 2, 4] rfl rfl rfl rfl (by decide) rfl dX6_lines_25 (fun r_25 u h => ?_)
      obtain ⟨u_25_0, u_25_1⟩ := u
      dsimp only at h
      refine v_ws (ws' := (cl_X6_lines T o_p0 a_p0 o_S o_W a_W s_p0_sentSize u_25_0 s_p0_latestTries s_p0_latestAsked s_W_there s_W_kind s_W_tag s_W_size s_W_lineCount s_W_through u_25_1 s_p0_worlds)) [3, 0, 1, 4, 2] rfl rfl ?_
      exact r _ _ _ (u_25_0, s_p0_latestAsked, u_25_1) _ dX6_lines_28 h rfl
  · replace h := h.2 c_4
    refine v_iconst X dX6_lines_7 (v := (-1 : Int32)) (by decide) ?_
    exact r _ _ _ (s_p0_latestFinding, s_p0_latestAsked, s_p0_findingTimes) _ dX6_lines_8 h rfl
-- X6_fault
abbrev cl_X6_fault (T : Nat → ClassId) (o_p0 : Nat) (a_p0 : Nat → Nat) (o_S : Nat) (o_W : Nat) (a_W : Nat → Nat) (s_p0_sentSize : Int32) (s_p0_latestFinding : Int32) (s_p0_latestTries : Int32) (s_p0_latestAsked : Int64) (s_W_there : Int32) (s_W_kind : Int32) (s_W_tag : Int32) (s_W_size : Int32) (s_W_lineCount : Int32) (s_W_sets : Nat → Int64) (s_W_through : Nat → Int64) (s_p0_findingTimes : Nat → Int32) (s_p0_worlds : Nat → Option Nat) : va_W := [vO o_p0 3 [.ref (a_p0 0), .ref (a_p0 1), .ref (a_p0 2), .ref (a_p0 3), .ref (a_p0 4), .ref (a_p0 5), .ref (a_p0 6), .ref (a_p0 7), .ref o_S, .int s_p0_sentSize, .int s_p0_latestFinding, .int s_p0_latestTries, .long s_p0_latestAsked], vO o_W 2 [.ref (a_W 0), .ref (a_W 1), .ref (a_W 2), .int s_W_there, .int s_W_kind, .int s_W_tag, .int s_W_size, .int s_W_lineCount], vJ T (a_W 0) 45 s_W_sets, vJ T (a_W 1) 45 s_W_through, vI T (a_p0 3) 6 s_p0_findingTimes, vR T 2 (a_p0 0) 6 s_p0_worlds]
abbrev r_X6_fault (E : vE) (T : Nat → ClassId) (o_p0 : Nat) (a_p0 : Nat → Nat) (o_S : Nat) (o_W : Nat) (a_W : Nat → Nat) (s_p0_sentSize : Int32) (s_p0_latestTries : Int32) (s_W_there : Int32) (s_W_kind : Int32) (s_W_tag : Int32) (s_W_size : Int32) (s_W_lineCount : Int32) (s_W_sets : Nat → Int64) (s_W_through : Nat → Int64) (s_p0_worlds : Nat → Option Nat) (Q : Int32 → (Int32) → (Int64) → (Nat → Int32) → Prop) : Prop := vRi E cX6_fault (fun v (u : (Int32) × (Int64) × (Nat → Int32)) => Q v u.1 u.2.1 u.2.2) (fun (u : (Int32) × (Int64) × (Nat → Int32)) => (cl_X6_fault T o_p0 a_p0 o_S o_W a_W s_p0_sentSize u.1 s_p0_latestTries u.2.1 s_W_there s_W_kind s_W_tag s_W_size s_W_lineCount s_W_sets s_W_through u.2.2 s_p0_worlds))
def w_X6_fault (x_1 : Int32) (s_p0_latestFinding : Int32) (s_p0_latestAsked : Int64) (s_W_there : Int32) (s_W_size : Int32) (s_W_lineCount : Int32) (s_W_sets : Nat → Int64) (s_W_through : Nat → Int64) (s_p0_findingTimes : Nat → Int32) (s_p0_worlds : Nat → Option Nat) (o_W : Nat) (Q : Int32 → (Int32) → (Int64) → (Nat → Int32) → Prop) : Prop := (w_X6_isWorldNumber x_1 (fun (r_1 : Int32) => ((¬ r_1 = 0 → (vp_in x_1 6 ∧ s_p0_worlds (x_1).toNatClampNeg = some o_W ∧ ((¬ s_W_there = 0 → (vp_in x_1 6 ∧ s_p0_worlds (x_1).toNatClampNeg = some o_W ∧ (w_X0_firstOf s_W_size s_W_lineCount s_W_sets s_W_through (fun (r_33 : Int32) => ((¬ r_33 = 0 → (w_X0_placeIn r_33 (fun (r_45 : Int32) => (w_X0_sortOf r_33 (fun (r_53 : Int32) => (Q r_53 s_p0_latestFinding (r_45).toInt64 s_p0_findingTimes)))))) ∧ (r_33 = 0 → (Q (0 : Int32) s_p0_latestFinding s_p0_latestAsked s_p0_findingTimes))))))) ∧ (s_W_there = 0 → (w_X6_refused (1 : Int32) s_p0_latestFinding s_p0_findingTimes (fun (r_23 : Int32) (u_23_0 : Int32) (u_23_1 : Nat → Int32) => (Q r_23 u_23_0 s_p0_latestAsked u_23_1))))))) ∧ (r_1 = 0 → (Q (-1 : Int32) s_p0_latestFinding s_p0_latestAsked s_p0_findingTimes)))))
-- X6_fault
theorem iX6_fault_X5 : ∀ w ∈ wsX50, w ∈ wsX6_fault := by decide +kernel
theorem iX6_fault_X6 : ∀ w ∈ wsX60, w ∈ wsX6_fault := by decide +kernel
set_option maxHeartbeats 4000000 in
set_option maxRecDepth 100000 in
theorem c_X6_fault {l : Launch} {D : va_G} {T : Nat → ClassId} {o_p0 : Nat} {a_p0 : Nat → Nat} {o_S : Nat} {o_W : Nat} {a_W : Nat → Nat} {s_p0_sentSize : Int32} {s_p0_latestFinding : Int32} {s_p0_latestTries : Int32} {s_p0_latestAsked : Int64} {s_W_there : Int32} {s_W_kind : Int32} {s_W_tag : Int32} {s_W_size : Int32} {s_W_lineCount : Int32} {s_W_sets : Nat → Int64} {s_W_through : Nat → Int64} {s_p0_findingTimes : Nat → Int32} {s_p0_worlds : Nat → Option Nat} {x_1 : Int32} {Q : Int32 → (Int32) → (Int64) → (Nat → Int32) → Prop} (h : w_X6_fault x_1 s_p0_latestFinding s_p0_latestAsked s_W_there s_W_size s_W_lineCount s_W_sets s_W_through s_p0_findingTimes s_p0_worlds o_W Q) : vCi l D (vT T) yX6_fault wsX6_fault (vr 4 93) [.ref o_p0, .int x_1] (cl_X6_fault T o_p0 a_p0 o_S o_W a_W s_p0_sentSize s_p0_latestFinding s_p0_latestTries s_p0_latestAsked s_W_there s_W_kind s_W_tag s_W_size s_W_lineCount s_W_sets s_W_through s_p0_findingTimes s_p0_worlds) (fun v (u : (Int32) × (Int64) × (Nat → Int32)) => Q v u.1 u.2.1 u.2.2) (fun (u : (Int32) × (Int64) × (Nat → Int32)) => (cl_X6_fault T o_p0 a_p0 o_S o_W a_W s_p0_sentSize u.1 s_p0_latestTries u.2.1 s_W_there s_W_kind s_W_tag s_W_size s_W_lineCount s_W_sets s_W_through u.2.2 s_p0_worlds)) := by
  refine vC_i (cc := cX6_fault) (nL := 3) (by decide +kernel) rfl ⟨rfl, rfl⟩ (Nat.le_of_ble_eq_true rfl) rfl ?_
  intro E el eD X r
  unfold w_X6_fault at h
  refine v_iload_n X 1 dX6_fault_0 rfl rfl ?_
  refine v_callSi0 X (As := [.int x_1]) (rest := []) 1 (c_X6_isWorldNumber (l := vl E) (D := vD E) (T := T) (x_0 := x_1) h) gX6_fault_X6_isWorldNumber rfl rfl (by decide +kernel) ⟨Nat.zero_le _, Nat.zero_le _⟩ ⟨rfl, rfl, by decide, by decide⟩ (Nat.le_of_ble_eq_true rfl) rfl dX6_fault_1 (fun r_1 h => ?_)
  refine v_if_ne X (tgt := 9) dX6_fault_4 (by decide) (fun c_4 => ?_) (fun c_4 => ?_)
  · replace h := h.1 c_4
    refine v_aload_n X 0 dX6_fault_9 rfl rfl ?_
    refine v_get X 0 0 (F := TX6) (N := 13) iX6_fault_X6 rfl rfl (by decide) (List.mem_of_getElem? (i := 1) rfl) rfl rfl dX6_fault_10 ?_
    refine v_iload_n X 1 dX6_fault_13 rfl rfl ?_
    refine v_aald X 5 2 rfl rfl h.1 h.2.1 dX6_fault_14 ?_
    replace h := h.2.2
    refine v_getN X 1 3 (F := TX5) (N := 8) iX6_fault_X5 rfl rfl (by decide) (List.mem_of_getElem? (i := 23) rfl) rfl rfl dX6_fault_15 ?_
    refine v_if_ne X (tgt := 27) dX6_fault_18 (by decide) (fun c_18 => ?_) (fun c_18 => ?_)
    · replace h := h.1 c_18
      refine v_aload_n X 0 dX6_fault_27 rfl rfl ?_
      refine v_get X 0 0 (F := TX6) (N := 13) iX6_fault_X6 rfl rfl (by decide) (List.mem_of_getElem? (i := 1) rfl) rfl rfl dX6_fault_28 ?_
      refine v_iload_n X 1 dX6_fault_31 rfl rfl ?_
      refine v_aald X 5 2 rfl rfl h.1 h.2.1 dX6_fault_32 ?_
      replace h := h.2.2
      refine v_callSi X (As := [.ref o_W]) (rest := []) 1 (c_X0_firstOf (l := vl E) (D := vD E) (T := T) (o_p0 := o_W) (a_p0 := a_W) (s_p0_there := s_W_there) (s_p0_kind := s_W_kind) (s_p0_tag := s_W_tag) (s_p0_size := s_W_size) (s_p0_lineCount := s_W_lineCount) (s_p0_sets := s_W_sets) (s_p0_through := s_W_through) h) gX6_fault_X0_firstOf rfl rfl (by decide +kernel) ⟨Nat.zero_le _, Nat.zero_le _⟩ ⟨rfl, rfl, by decide, by decide⟩ (Nat.le_of_ble_eq_true rfl) (wr := [vO o_p0 3 [.ref (a_p0 0), .ref (a_p0 1), .ref (a_p0 2), .ref (a_p0 3), .ref (a_p0 4), .ref (a_p0 5), .ref (a_p0 6), .ref (a_p0 7), .ref o_S, .int s_p0_sentSize, .int s_p0_latestFinding, .int s_p0_latestTries, .long s_p0_latestAsked], vI T (a_p0 3) 6 s_p0_findingTimes, vR T 2 (a_p0 0) 6 s_p0_worlds]) [1, 2, 3] [0, 4, 5] rfl rfl rfl rfl (by decide) rfl dX6_fault_33 (fun r_33 u h => ?_)
      refine v_ws (ws' := (cl_X6_fault T o_p0 a_p0 o_S o_W a_W s_p0_sentSize s_p0_latestFinding s_p0_latestTries s_p0_latestAsked s_W_there s_W_kind s_W_tag s_W_size s_W_lineCount s_W_sets s_W_through s_p0_findingTimes s_p0_worlds)) [0, 3, 4, 5, 1, 2] rfl rfl ?_
      refine v_istore_n X (lv' := [(2, .int r_33), (0, .ref o_p0), (1, .int x_1)]) dX6_fault_36 rfl (by decide) rfl ?_
      refine v_iload_n X 0 dX6_fault_37 rfl rfl ?_
      refine v_if_ne X (tgt := 43) dX6_fault_38 (by decide) (fun c_38 => ?_) (fun c_38 => ?_)
      · replace h := h.1 c_38
        refine v_aload_n X 1 dX6_fault_43 rfl rfl ?_
        refine v_iload_n X 0 dX6_fault_44 rfl rfl ?_
        refine v_callSi0 X (As := [.int r_33]) (rest := [.ref o_p0]) 1 (c_X0_placeIn (l := vl E) (D := vD E) (T := T) (x_0 := r_33) h) gX6_fault_X0_placeIn rfl rfl (by decide +kernel) ⟨Nat.zero_le _, Nat.zero_le _⟩ ⟨rfl, rfl, by decide, by decide⟩ (Nat.le_of_ble_eq_true rfl) rfl dX6_fault_45 (fun r_45 h => ?_)
        refine v_i2l X dX6_fault_48 ?_
        refine v_put X (ws' := (cl_X6_fault T o_p0 a_p0 o_S o_W a_W s_p0_sentSize s_p0_latestFinding s_p0_latestTries (r_45).toInt64 s_W_there s_W_kind s_W_tag s_W_size s_W_lineCount s_W_sets s_W_through s_p0_findingTimes s_p0_worlds)) 0 12 (F := TX6) (N := 13) iX6_fault_X6 rfl tyX6 tyX6_ok nmX6 rfl (by decide) (List.mem_of_getElem? (i := 2) rfl) rfl rfl rfl rfl rfl (Nat.le_of_ble_eq_true rfl) rfl dX6_fault_49 ?_
        refine v_iload_n X 0 dX6_fault_52 rfl rfl ?_
        refine v_callSi0 X (As := [.int r_33]) (rest := []) 1 (c_X0_sortOf (l := vl E) (D := vD E) (T := T) (x_0 := r_33) h) gX6_fault_X0_sortOf rfl rfl (by decide +kernel) ⟨Nat.zero_le _, Nat.zero_le _⟩ ⟨rfl, rfl, by decide, by decide⟩ (Nat.le_of_ble_eq_true rfl) rfl dX6_fault_53 (fun r_53 h => ?_)
        exact r _ _ _ (s_p0_latestFinding, (r_45).toInt64, s_p0_findingTimes) _ dX6_fault_56 h rfl
      · replace h := h.2 c_38
        refine v_iconst X dX6_fault_41 (v := (0 : Int32)) (by decide) ?_
        exact r _ _ _ (s_p0_latestFinding, s_p0_latestAsked, s_p0_findingTimes) _ dX6_fault_42 h rfl
    · replace h := h.2 c_18
      refine v_aload_n X 0 dX6_fault_21 rfl rfl ?_
      refine v_iconst X dX6_fault_22 (v := (1 : Int32)) (by decide) ?_
      refine v_callVi X (As := [.int (1 : Int32)]) (rest := []) 1 0 (c_X6_refused (l := vl E) (D := vD E) (T := T) (o_p0 := o_p0) (a_p0 := a_p0) (o_S := o_S) (s_p0_sentSize := s_p0_sentSize) (s_p0_latestFinding := s_p0_latestFinding) (s_p0_latestTries := s_p0_latestTries) (s_p0_latestAsked := s_p0_latestAsked) (s_p0_findingTimes := s_p0_findingTimes) (x_1 := (1 : Int32)) h) gX6_fault_X6_refused rfl rfl (by decide +kernel) ⟨Nat.zero_le _, Nat.zero_le _⟩ ⟨rfl, rfl, by decide, by decide⟩ (Nat.le_of_ble_eq_true rfl) rfl rfl (wr := [vO o_W 2 [.ref (a_W 0), .ref (a_W 1), .ref (a_W 2), .int s_W_there, .int s_W_kind, .int s_W_tag, .int s_W_size, .int s_W_lineCount], vJ T (a_W 0) 45 s_W_sets, vJ T (a_W 1) 45 s_W_through, vR T 2 (a_p0 0) 6 s_p0_worlds]) [0, 4] [1, 2, 3, 5] rfl rfl rfl rfl (by decide) rfl dX6_fault_23 (fun r_23 u h => ?_)
      obtain ⟨u_23_0, u_23_1⟩ := u
      dsimp only at h
      refine v_ws (ws' := (cl_X6_fault T o_p0 a_p0 o_S o_W a_W s_p0_sentSize u_23_0 s_p0_latestTries s_p0_latestAsked s_W_there s_W_kind s_W_tag s_W_size s_W_lineCount s_W_sets s_W_through u_23_1 s_p0_worlds)) [4, 0, 1, 2, 5, 3] rfl rfl ?_
      exact r _ _ _ (u_23_0, s_p0_latestAsked, u_23_1) _ dX6_fault_26 h rfl
  · replace h := h.2 c_4
    refine v_iconst X dX6_fault_7 (v := (-1 : Int32)) (by decide) ?_
    exact r _ _ _ (s_p0_latestFinding, s_p0_latestAsked, s_p0_findingTimes) _ dX6_fault_8 h rfl
-- X6_mean
abbrev cl_X6_mean (T : Nat → ClassId) (o_p0 : Nat) (a_p0 : Nat → Nat) (o_S : Nat) (o_W : Nat) (a_W : Nat → Nat) (s_p0_sentSize : Int32) (s_p0_latestFinding : Int32) (s_p0_latestTries : Int32) (s_p0_latestAsked : Int64) (s_W_there : Int32) (s_W_kind : Int32) (s_W_tag : Int32) (s_W_size : Int32) (s_W_lineCount : Int32) (s_W_sets : Nat → Int64) (s_p0_findingTimes : Nat → Int32) (s_p0_worlds : Nat → Option Nat) : va_W := [vO o_p0 3 [.ref (a_p0 0), .ref (a_p0 1), .ref (a_p0 2), .ref (a_p0 3), .ref (a_p0 4), .ref (a_p0 5), .ref (a_p0 6), .ref (a_p0 7), .ref o_S, .int s_p0_sentSize, .int s_p0_latestFinding, .int s_p0_latestTries, .long s_p0_latestAsked], vO o_W 2 [.ref (a_W 0), .ref (a_W 1), .ref (a_W 2), .int s_W_there, .int s_W_kind, .int s_W_tag, .int s_W_size, .int s_W_lineCount], vJ T (a_W 0) 45 s_W_sets, vI T (a_p0 3) 6 s_p0_findingTimes, vR T 2 (a_p0 0) 6 s_p0_worlds]
abbrev r_X6_mean (E : vE) (T : Nat → ClassId) (o_p0 : Nat) (a_p0 : Nat → Nat) (o_S : Nat) (o_W : Nat) (a_W : Nat → Nat) (s_p0_sentSize : Int32) (s_p0_latestTries : Int32) (s_p0_latestAsked : Int64) (s_W_there : Int32) (s_W_kind : Int32) (s_W_tag : Int32) (s_W_size : Int32) (s_W_lineCount : Int32) (s_W_sets : Nat → Int64) (s_p0_worlds : Nat → Option Nat) (Q : Int32 → (Int32) → (Nat → Int32) → Prop) : Prop := vRi E cX6_mean (fun v (u : (Int32) × (Nat → Int32)) => Q v u.1 u.2) (fun (u : (Int32) × (Nat → Int32)) => (cl_X6_mean T o_p0 a_p0 o_S o_W a_W s_p0_sentSize u.1 s_p0_latestTries s_p0_latestAsked s_W_there s_W_kind s_W_tag s_W_size s_W_lineCount s_W_sets u.2 s_p0_worlds))
def w_X6_mean_47s (s_p0_latestFinding : Int32) (s_W_there : Int32) (s_W_lineCount : Int32) (s_W_sets : Nat → Int64) (s_p0_findingTimes : Nat → Int32) (s_p0_worlds : Nat → Option Nat) (o_W : Nat) (Q : Int32 → (Int32) → (Nat → Int32) → Prop) (K_47 : (Int32) → (Int32) → Prop) (x_3 : Int32) (x_4 : Int32) : Prop := ((s_W_lineCount ≤ x_4 → (¬ s_W_lineCount = 0 ∧ (Q (x_3 / s_W_lineCount) s_p0_latestFinding s_p0_findingTimes))) ∧ (¬ s_W_lineCount ≤ x_4 → (vp_in x_4 45 ∧ (w_J13_bitCount_95d88 (s_W_sets (x_4).toNatClampNeg) (fun (r_64 : Int32) => (K_47 (x_3 + r_64) (x_4 + (1 : Int32))))))))
def w_X6_mean_47 (s_p0_latestFinding : Int32) (s_W_there : Int32) (s_W_lineCount : Int32) (s_W_sets : Nat → Int64) (s_p0_findingTimes : Nat → Int32) (s_p0_worlds : Nat → Option Nat) (o_W : Nat) (Q : Int32 → (Int32) → (Nat → Int32) → Prop) : Nat → (Int32) → (Int32) → Prop
  | 0 => fun _ _ => False
  | n_ + 1 => w_X6_mean_47s s_p0_latestFinding s_W_there s_W_lineCount s_W_sets s_p0_findingTimes s_p0_worlds o_W Q (w_X6_mean_47 s_p0_latestFinding s_W_there s_W_lineCount s_W_sets s_p0_findingTimes s_p0_worlds o_W Q n_)
def w_X6_mean (x_1 : Int32) (s_p0_latestFinding : Int32) (s_W_there : Int32) (s_W_lineCount : Int32) (s_W_sets : Nat → Int64) (s_p0_findingTimes : Nat → Int32) (s_p0_worlds : Nat → Option Nat) (o_W : Nat) (Q : Int32 → (Int32) → (Nat → Int32) → Prop) : Prop := (w_X6_isWorldNumber x_1 (fun (r_1 : Int32) => ((¬ r_1 = 0 → (vp_in x_1 6 ∧ s_p0_worlds (x_1).toNatClampNeg = some o_W ∧ ((¬ s_W_there = 0 → ((¬ s_W_lineCount = 0 → (∃ n_, w_X6_mean_47 s_p0_latestFinding s_W_there s_W_lineCount s_W_sets s_p0_findingTimes s_p0_worlds o_W Q n_ (0 : Int32) (0 : Int32))) ∧ (s_W_lineCount = 0 → (w_X6_refused (4 : Int32) s_p0_latestFinding s_p0_findingTimes (fun (r_38 : Int32) (u_38_0 : Int32) (u_38_1 : Nat → Int32) => (Q r_38 u_38_0 u_38_1)))))) ∧ (s_W_there = 0 → (w_X6_refused (1 : Int32) s_p0_latestFinding s_p0_findingTimes (fun (r_25 : Int32) (u_25_0 : Int32) (u_25_1 : Nat → Int32) => (Q r_25 u_25_0 u_25_1))))))) ∧ (r_1 = 0 → (Q (-1 : Int32) s_p0_latestFinding s_p0_findingTimes)))))
-- X6_mean
theorem iX6_mean_X5 : ∀ w ∈ wsX50, w ∈ wsX6_mean := by decide +kernel
theorem iX6_mean_X6 : ∀ w ∈ wsX60, w ∈ wsX6_mean := by decide +kernel
set_option maxHeartbeats 4000000 in
set_option maxRecDepth 100000 in
theorem k_X6_mean_47 {E : vE} {T : Nat → ClassId} {o_p0 : Nat} {a_p0 : Nat → Nat} {o_S : Nat} {o_W : Nat} {a_W : Nat → Nat} {s_p0_sentSize : Int32} {s_p0_latestFinding : Int32} {s_p0_latestTries : Int32} {s_p0_latestAsked : Int64} {s_W_there : Int32} {s_W_kind : Int32} {s_W_tag : Int32} {s_W_size : Int32} {s_W_lineCount : Int32} {s_W_sets : Nat → Int64} {s_p0_findingTimes : Nat → Int32} {s_p0_worlds : Nat → Option Nat} {Q : Int32 → (Int32) → (Nat → Int32) → Prop} (X : vX E cX6_mean 5 RX6 wsX6_mean (vT T) (vr 1 21)) (r : r_X6_mean E T o_p0 a_p0 o_S o_W a_W s_p0_sentSize s_p0_latestTries s_p0_latestAsked s_W_there s_W_kind s_W_tag s_W_size s_W_lineCount s_W_sets s_p0_worlds Q) : ∀ (n_ : Nat) (x_3 : Int32) (x_4 : Int32), w_X6_mean_47 s_p0_latestFinding s_W_there s_W_lineCount s_W_sets s_p0_findingTimes s_p0_worlds o_W Q n_ x_3 x_4 → V E 0 0 47 [(2, .ref o_W), (3, .int x_3), (4, .int x_4)] [] (cl_X6_mean T o_p0 a_p0 o_S o_W a_W s_p0_sentSize s_p0_latestFinding s_p0_latestTries s_p0_latestAsked s_W_there s_W_kind s_W_tag s_W_size s_W_lineCount s_W_sets s_p0_findingTimes s_p0_worlds) := by
  intro n_
  induction n_ with
  | zero => intro x_3 x_4 h; exact h.elim
  | succ n_ hK_47 =>
    intro x_3 x_4 h
    replace h : w_X6_mean_47s s_p0_latestFinding s_W_there s_W_lineCount s_W_sets s_p0_findingTimes s_p0_worlds o_W Q (w_X6_mean_47 s_p0_latestFinding s_W_there s_W_lineCount s_W_sets s_p0_findingTimes s_p0_worlds o_W Q n_) x_3 x_4 := h
    unfold w_X6_mean_47s at h
    refine v_iload X 2 dX6_mean_47 rfl ?_
    refine v_aload_n X 0 dX6_mean_49 rfl rfl ?_
    refine v_getN X 1 7 (F := TX5) (N := 8) iX6_mean_X5 rfl rfl (by decide) (List.mem_of_getElem? (i := 33) rfl) rfl rfl dX6_mean_50 ?_
    refine v_icmp_ge X (tgt := 75) dX6_mean_53 (by decide) (fun c_53 => ?_) (fun c_53 => ?_)
    · replace h := h.1 c_53
      refine v_iload_n X 1 dX6_mean_75 rfl rfl ?_
      refine v_aload_n X 0 dX6_mean_76 rfl rfl ?_
      refine v_getN X 1 7 (F := TX5) (N := 8) iX6_mean_X5 rfl rfl (by decide) (List.mem_of_getElem? (i := 33) rfl) rfl rfl dX6_mean_77 ?_
      refine v_idiv X dX6_mean_80 h.1 ?_
      replace h := h.2
      exact r _ _ _ (s_p0_latestFinding, s_p0_findingTimes) _ dX6_mean_81 h rfl
    · replace h := h.2 c_53
      refine v_iload_n X 1 dX6_mean_56 rfl rfl ?_
      refine v_aload_n X 0 dX6_mean_57 rfl rfl ?_
      refine v_getN X 1 0 (F := TX5) (N := 8) iX6_mean_X5 rfl rfl (by decide) (List.mem_of_getElem? (i := 15) rfl) rfl rfl dX6_mean_58 ?_
      refine v_iload X 2 dX6_mean_61 rfl ?_
      refine v_lald X 2 1 rfl rfl h.1 dX6_mean_63 ?_
      replace h := h.2
      refine v_callSi0 X (As := [.long (s_W_sets (x_4).toNatClampNeg)]) (rest := [.int x_3]) 1 (c_J13_bitCount_95d88 (l := vl E) (D := vD E) (T := T) (x_0 := (s_W_sets (x_4).toNatClampNeg)) h) gX6_mean_J13_bitCount_95d88 rfl rfl (by decide +kernel) ⟨Nat.zero_le _, Nat.zero_le _⟩ ⟨rfl, rfl, by decide, by decide⟩ (Nat.le_of_ble_eq_true rfl) rfl dX6_mean_64 (fun r_64 h => ?_)
      refine v_iadd X dX6_mean_67 ?_
      refine v_istore_n X (lv' := [(3, .int (x_3 + r_64)), (2, .ref o_W), (4, .int x_4)]) dX6_mean_68 rfl (by decide) rfl ?_
      refine v_iinc X (v := (x_4 + (1 : Int32))) (lv' := [(4, .int (x_4 + (1 : Int32))), (3, .int (x_3 + r_64)), (2, .ref o_W)]) 2 dX6_mean_69 rfl rfl (by decide) rfl ?_
      refine v_goto X (tgt := 47) dX6_mean_72 (by decide) ?_
      refine v_lv (lv' := [(2, .ref o_W), (3, .int (x_3 + r_64)), (4, .int (x_4 + (1 : Int32)))]) [2, 1, 0] rfl ?_
      exact hK_47 _ _ h
set_option maxHeartbeats 4000000 in
set_option maxRecDepth 100000 in
theorem c_X6_mean {l : Launch} {D : va_G} {T : Nat → ClassId} {o_p0 : Nat} {a_p0 : Nat → Nat} {o_S : Nat} {o_W : Nat} {a_W : Nat → Nat} {s_p0_sentSize : Int32} {s_p0_latestFinding : Int32} {s_p0_latestTries : Int32} {s_p0_latestAsked : Int64} {s_W_there : Int32} {s_W_kind : Int32} {s_W_tag : Int32} {s_W_size : Int32} {s_W_lineCount : Int32} {s_W_sets : Nat → Int64} {s_p0_findingTimes : Nat → Int32} {s_p0_worlds : Nat → Option Nat} {x_1 : Int32} {Q : Int32 → (Int32) → (Nat → Int32) → Prop} (h : w_X6_mean x_1 s_p0_latestFinding s_W_there s_W_lineCount s_W_sets s_p0_findingTimes s_p0_worlds o_W Q) : vCi l D (vT T) yX6_mean wsX6_mean (vr 1 21) [.ref o_p0, .int x_1] (cl_X6_mean T o_p0 a_p0 o_S o_W a_W s_p0_sentSize s_p0_latestFinding s_p0_latestTries s_p0_latestAsked s_W_there s_W_kind s_W_tag s_W_size s_W_lineCount s_W_sets s_p0_findingTimes s_p0_worlds) (fun v (u : (Int32) × (Nat → Int32)) => Q v u.1 u.2) (fun (u : (Int32) × (Nat → Int32)) => (cl_X6_mean T o_p0 a_p0 o_S o_W a_W s_p0_sentSize u.1 s_p0_latestTries s_p0_latestAsked s_W_there s_W_kind s_W_tag s_W_size s_W_lineCount s_W_sets u.2 s_p0_worlds)) := by
  refine vC_i (cc := cX6_mean) (nL := 5) (by decide +kernel) rfl ⟨rfl, rfl⟩ (Nat.le_of_ble_eq_true rfl) rfl ?_
  intro E el eD X r
  unfold w_X6_mean at h
  refine v_iload_n X 1 dX6_mean_0 rfl rfl ?_
  refine v_callSi0 X (As := [.int x_1]) (rest := []) 1 (c_X6_isWorldNumber (l := vl E) (D := vD E) (T := T) (x_0 := x_1) h) gX6_mean_X6_isWorldNumber rfl rfl (by decide +kernel) ⟨Nat.zero_le _, Nat.zero_le _⟩ ⟨rfl, rfl, by decide, by decide⟩ (Nat.le_of_ble_eq_true rfl) rfl dX6_mean_1 (fun r_1 h => ?_)
  refine v_if_ne X (tgt := 9) dX6_mean_4 (by decide) (fun c_4 => ?_) (fun c_4 => ?_)
  · replace h := h.1 c_4
    refine v_aload_n X 0 dX6_mean_9 rfl rfl ?_
    refine v_get X 0 0 (F := TX6) (N := 13) iX6_mean_X6 rfl rfl (by decide) (List.mem_of_getElem? (i := 1) rfl) rfl rfl dX6_mean_10 ?_
    refine v_iload_n X 1 dX6_mean_13 rfl rfl ?_
    refine v_aald X 4 2 rfl rfl h.1 h.2.1 dX6_mean_14 ?_
    replace h := h.2.2
    refine v_astore_n X (lv' := [(2, .ref o_W), (0, .ref o_p0), (1, .int x_1)]) dX6_mean_15 rfl (by decide) rfl ?_
    refine v_aload_n X 0 dX6_mean_16 rfl rfl ?_
    refine v_getN X 1 3 (F := TX5) (N := 8) iX6_mean_X5 rfl rfl (by decide) (List.mem_of_getElem? (i := 23) rfl) rfl rfl dX6_mean_17 ?_
    refine v_if_ne X (tgt := 29) dX6_mean_20 (by decide) (fun c_20 => ?_) (fun c_20 => ?_)
    · replace h := h.1 c_20
      refine v_aload_n X 0 dX6_mean_29 rfl rfl ?_
      refine v_getN X 1 7 (F := TX5) (N := 8) iX6_mean_X5 rfl rfl (by decide) (List.mem_of_getElem? (i := 33) rfl) rfl rfl dX6_mean_30 ?_
      refine v_if_ne X (tgt := 42) dX6_mean_33 (by decide) (fun c_33 => ?_) (fun c_33 => ?_)
      · replace h := h.1 c_33
        refine v_iconst X dX6_mean_42 (v := (0 : Int32)) (by decide) ?_
        refine v_istore_n X (lv' := [(3, .int (0 : Int32)), (2, .ref o_W), (0, .ref o_p0), (1, .int x_1)]) dX6_mean_43 rfl (by decide) rfl ?_
        refine v_iconst X dX6_mean_44 (v := (0 : Int32)) (by decide) ?_
        refine v_istore X (lv' := [(4, .int (0 : Int32)), (3, .int (0 : Int32)), (2, .ref o_W), (0, .ref o_p0), (1, .int x_1)]) dX6_mean_45 (by decide) rfl ?_
        refine v_lv (lv' := [(2, .ref o_W), (3, .int (0 : Int32)), (4, .int (0 : Int32))]) [2, 1, 0] rfl ?_
        obtain ⟨n_, h⟩ := h
        exact k_X6_mean_47 X r n_ _ _ h
      · replace h := h.2 c_33
        refine v_aload_n X 1 dX6_mean_36 rfl rfl ?_
        refine v_iconst X dX6_mean_37 (v := (4 : Int32)) (by decide) ?_
        refine v_callVi X (As := [.int (4 : Int32)]) (rest := []) 1 0 (c_X6_refused (l := vl E) (D := vD E) (T := T) (o_p0 := o_p0) (a_p0 := a_p0) (o_S := o_S) (s_p0_sentSize := s_p0_sentSize) (s_p0_latestFinding := s_p0_latestFinding) (s_p0_latestTries := s_p0_latestTries) (s_p0_latestAsked := s_p0_latestAsked) (s_p0_findingTimes := s_p0_findingTimes) (x_1 := (4 : Int32)) h) gX6_mean_X6_refused rfl rfl (by decide +kernel) ⟨Nat.zero_le _, Nat.zero_le _⟩ ⟨rfl, rfl, by decide, by decide⟩ (Nat.le_of_ble_eq_true rfl) rfl rfl (wr := [vO o_W 2 [.ref (a_W 0), .ref (a_W 1), .ref (a_W 2), .int s_W_there, .int s_W_kind, .int s_W_tag, .int s_W_size, .int s_W_lineCount], vJ T (a_W 0) 45 s_W_sets, vR T 2 (a_p0 0) 6 s_p0_worlds]) [0, 3] [1, 2, 4] rfl rfl rfl rfl (by decide) rfl dX6_mean_38 (fun r_38 u h => ?_)
        obtain ⟨u_38_0, u_38_1⟩ := u
        dsimp only at h
        refine v_ws (ws' := (cl_X6_mean T o_p0 a_p0 o_S o_W a_W s_p0_sentSize u_38_0 s_p0_latestTries s_p0_latestAsked s_W_there s_W_kind s_W_tag s_W_size s_W_lineCount s_W_sets u_38_1 s_p0_worlds)) [3, 0, 1, 4, 2] rfl rfl ?_
        exact r _ _ _ (u_38_0, u_38_1) _ dX6_mean_41 h rfl
    · replace h := h.2 c_20
      refine v_aload_n X 1 dX6_mean_23 rfl rfl ?_
      refine v_iconst X dX6_mean_24 (v := (1 : Int32)) (by decide) ?_
      refine v_callVi X (As := [.int (1 : Int32)]) (rest := []) 1 0 (c_X6_refused (l := vl E) (D := vD E) (T := T) (o_p0 := o_p0) (a_p0 := a_p0) (o_S := o_S) (s_p0_sentSize := s_p0_sentSize) (s_p0_latestFinding := s_p0_latestFinding) (s_p0_latestTries := s_p0_latestTries) (s_p0_latestAsked := s_p0_latestAsked) (s_p0_findingTimes := s_p0_findingTimes) (x_1 := (1 : Int32)) h) gX6_mean_X6_refused rfl rfl (by decide +kernel) ⟨Nat.zero_le _, Nat.zero_le _⟩ ⟨rfl, rfl, by decide, by decide⟩ (Nat.le_of_ble_eq_true rfl) rfl rfl (wr := [vO o_W 2 [.ref (a_W 0), .ref (a_W 1), .ref (a_W 2), .int s_W_there, .int s_W_kind, .int s_W_tag, .int s_W_size, .int s_W_lineCount], vJ T (a_W 0) 45 s_W_sets, vR T 2 (a_p0 0) 6 s_p0_worlds]) [0, 3] [1, 2, 4] rfl rfl rfl rfl (by decide) rfl dX6_mean_25 (fun r_25 u h => ?_)
      obtain ⟨u_25_0, u_25_1⟩ := u
      dsimp only at h
      refine v_ws (ws' := (cl_X6_mean T o_p0 a_p0 o_S o_W a_W s_p0_sentSize u_25_0 s_p0_latestTries s_p0_latestAsked s_W_there s_W_kind s_W_tag s_W_size s_W_lineCount s_W_sets u_25_1 s_p0_worlds)) [3, 0, 1, 4, 2] rfl rfl ?_
      exact r _ _ _ (u_25_0, u_25_1) _ dX6_mean_28 h rfl
  · replace h := h.2 c_4
    refine v_iconst X dX6_mean_7 (v := (-1 : Int32)) (by decide) ?_
    exact r _ _ _ (s_p0_latestFinding, s_p0_findingTimes) _ dX6_mean_8 h rfl
-- X6_perp
abbrev cl_X6_perp (T : Nat → ClassId) (o_p0 : Nat) (a_p0 : Nat → Nat) (o_S : Nat) (o_W : Nat) (a_W : Nat → Nat) (s_p0_sentSize : Int32) (s_p0_latestFinding : Int32) (s_p0_latestTries : Int32) (s_p0_latestAsked : Int64) (s_W_there : Int32) (s_W_kind : Int32) (s_W_tag : Int32) (s_W_size : Int32) (s_W_lineCount : Int32) (s_W_near : Nat → Int64) (s_p0_findingTimes : Nat → Int32) (s_p0_worlds : Nat → Option Nat) : va_W := [vO o_p0 3 [.ref (a_p0 0), .ref (a_p0 1), .ref (a_p0 2), .ref (a_p0 3), .ref (a_p0 4), .ref (a_p0 5), .ref (a_p0 6), .ref (a_p0 7), .ref o_S, .int s_p0_sentSize, .int s_p0_latestFinding, .int s_p0_latestTries, .long s_p0_latestAsked], vO o_W 2 [.ref (a_W 0), .ref (a_W 1), .ref (a_W 2), .int s_W_there, .int s_W_kind, .int s_W_tag, .int s_W_size, .int s_W_lineCount], vJ T (a_W 2) 45 s_W_near, vI T (a_p0 3) 6 s_p0_findingTimes, vR T 2 (a_p0 0) 6 s_p0_worlds]
abbrev r_X6_perp (E : vE) (T : Nat → ClassId) (o_p0 : Nat) (a_p0 : Nat → Nat) (o_S : Nat) (o_W : Nat) (a_W : Nat → Nat) (s_p0_sentSize : Int32) (s_p0_latestTries : Int32) (s_W_there : Int32) (s_W_kind : Int32) (s_W_tag : Int32) (s_W_size : Int32) (s_W_lineCount : Int32) (s_W_near : Nat → Int64) (s_p0_worlds : Nat → Option Nat) (Q : Int32 → (Int32) → (Int64) → (Nat → Int32) → Prop) : Prop := vRi E cX6_perp (fun v (u : (Int32) × (Int64) × (Nat → Int32)) => Q v u.1 u.2.1 u.2.2) (fun (u : (Int32) × (Int64) × (Nat → Int32)) => (cl_X6_perp T o_p0 a_p0 o_S o_W a_W s_p0_sentSize u.1 s_p0_latestTries u.2.1 s_W_there s_W_kind s_W_tag s_W_size s_W_lineCount s_W_near u.2.2 s_p0_worlds))
def w_X6_perp (x_1 : Int32) (x_2 : Int64) (s_p0_latestFinding : Int32) (s_p0_latestAsked : Int64) (s_W_there : Int32) (s_W_size : Int32) (s_W_near : Nat → Int64) (s_p0_findingTimes : Nat → Int32) (s_p0_worlds : Nat → Option Nat) (o_W : Nat) (Q : Int32 → (Int32) → (Int64) → (Nat → Int32) → Prop) : Prop := (w_X6_isWorldNumber x_1 (fun (r_1 : Int32) => ((¬ r_1 = 0 → (vp_in x_1 6 ∧ s_p0_worlds (x_1).toNatClampNeg = some o_W ∧ ((¬ s_W_there = 0 → (w_X5_hasAll x_2 s_W_size (fun (r_34 : Int32) => ((¬ r_34 = 0 → (w_X5_nearToAll x_2 s_W_size s_W_near (fun (r_46 : Int64) => (w_X6_askedSet r_46 s_p0_latestAsked (fun (r_49 : Int32) (u_49_0 : Int64) => (Q r_49 s_p0_latestFinding u_49_0 s_p0_findingTimes)))))) ∧ (r_34 = 0 → (Q (-1 : Int32) s_p0_latestFinding s_p0_latestAsked s_p0_findingTimes)))))) ∧ (s_W_there = 0 → (w_X6_refused (1 : Int32) s_p0_latestFinding s_p0_findingTimes (fun (r_27 : Int32) (u_27_0 : Int32) (u_27_1 : Nat → Int32) => (Q r_27 u_27_0 s_p0_latestAsked u_27_1))))))) ∧ (r_1 = 0 → (Q (-1 : Int32) s_p0_latestFinding s_p0_latestAsked s_p0_findingTimes)))))
-- X6_perp
theorem iX6_perp_X5 : ∀ w ∈ wsX50, w ∈ wsX6_perp := by decide +kernel
theorem iX6_perp_X6 : ∀ w ∈ wsX60, w ∈ wsX6_perp := by decide +kernel
set_option maxHeartbeats 4000000 in
set_option maxRecDepth 100000 in
theorem c_X6_perp {l : Launch} {D : va_G} {T : Nat → ClassId} {o_p0 : Nat} {a_p0 : Nat → Nat} {o_S : Nat} {o_W : Nat} {a_W : Nat → Nat} {s_p0_sentSize : Int32} {s_p0_latestFinding : Int32} {s_p0_latestTries : Int32} {s_p0_latestAsked : Int64} {s_W_there : Int32} {s_W_kind : Int32} {s_W_tag : Int32} {s_W_size : Int32} {s_W_lineCount : Int32} {s_W_near : Nat → Int64} {s_p0_findingTimes : Nat → Int32} {s_p0_worlds : Nat → Option Nat} {x_1 : Int32} {x_2 : Int64} {Q : Int32 → (Int32) → (Int64) → (Nat → Int32) → Prop} (h : w_X6_perp x_1 x_2 s_p0_latestFinding s_p0_latestAsked s_W_there s_W_size s_W_near s_p0_findingTimes s_p0_worlds o_W Q) : vCi l D (vT T) yX6_perp wsX6_perp (vr 2 47) [.ref o_p0, .int x_1, .long x_2] (cl_X6_perp T o_p0 a_p0 o_S o_W a_W s_p0_sentSize s_p0_latestFinding s_p0_latestTries s_p0_latestAsked s_W_there s_W_kind s_W_tag s_W_size s_W_lineCount s_W_near s_p0_findingTimes s_p0_worlds) (fun v (u : (Int32) × (Int64) × (Nat → Int32)) => Q v u.1 u.2.1 u.2.2) (fun (u : (Int32) × (Int64) × (Nat → Int32)) => (cl_X6_perp T o_p0 a_p0 o_S o_W a_W s_p0_sentSize u.1 s_p0_latestTries u.2.1 s_W_there s_W_kind s_W_tag s_W_size s_W_lineCount s_W_near u.2.2 s_p0_worlds)) := by
  refine vC_i (cc := cX6_perp) (nL := 5) (by decide +kernel) rfl ⟨rfl, rfl⟩ (Nat.le_of_ble_eq_true rfl) rfl ?_
  intro E el eD X r
  unfold w_X6_perp at h
  refine v_iload_n X 1 dX6_perp_0 rfl rfl ?_
  refine v_callSi0 X (As := [.int x_1]) (rest := []) 1 (c_X6_isWorldNumber (l := vl E) (D := vD E) (T := T) (x_0 := x_1) h) gX6_perp_X6_isWorldNumber rfl rfl (by decide +kernel) ⟨Nat.zero_le _, Nat.zero_le _⟩ ⟨rfl, rfl, by decide, by decide⟩ (Nat.le_of_ble_eq_true rfl) rfl dX6_perp_1 (fun r_1 h => ?_)
  refine v_if_ne X (tgt := 9) dX6_perp_4 (by decide) (fun c_4 => ?_) (fun c_4 => ?_)
  · replace h := h.1 c_4
    refine v_aload_n X 0 dX6_perp_9 rfl rfl ?_
    refine v_get X 0 0 (F := TX6) (N := 13) iX6_perp_X6 rfl rfl (by decide) (List.mem_of_getElem? (i := 1) rfl) rfl rfl dX6_perp_10 ?_
    refine v_iload_n X 1 dX6_perp_13 rfl rfl ?_
    refine v_aald X 4 2 rfl rfl h.1 h.2.1 dX6_perp_14 ?_
    replace h := h.2.2
    refine v_astore X (lv' := [(4, .ref o_W), (0, .ref o_p0), (1, .int x_1), (2, .long x_2)]) dX6_perp_15 (by decide) rfl ?_
    refine v_aload X 0 dX6_perp_17 rfl ?_
    refine v_getN X 1 3 (F := TX5) (N := 8) iX6_perp_X5 rfl rfl (by decide) (List.mem_of_getElem? (i := 23) rfl) rfl rfl dX6_perp_19 ?_
    refine v_if_ne X (tgt := 31) dX6_perp_22 (by decide) (fun c_22 => ?_) (fun c_22 => ?_)
    · replace h := h.1 c_22
      refine v_aload X 0 dX6_perp_31 rfl ?_
      refine v_lload_n X 3 dX6_perp_33 rfl rfl ?_
      refine v_callVi X (As := [.long x_2]) (rest := []) 1 0 (c_X5_hasAll (l := vl E) (D := vD E) (T := T) (o_p0 := o_W) (a_p0 := a_W) (s_p0_there := s_W_there) (s_p0_kind := s_W_kind) (s_p0_tag := s_W_tag) (s_p0_size := s_W_size) (s_p0_lineCount := s_W_lineCount) (x_1 := x_2) h) gX6_perp_X5_hasAll rfl rfl (by decide +kernel) ⟨Nat.zero_le _, Nat.zero_le _⟩ ⟨rfl, rfl, by decide, by decide⟩ (Nat.le_of_ble_eq_true rfl) rfl rfl (wr := [vO o_p0 3 [.ref (a_p0 0), .ref (a_p0 1), .ref (a_p0 2), .ref (a_p0 3), .ref (a_p0 4), .ref (a_p0 5), .ref (a_p0 6), .ref (a_p0 7), .ref o_S, .int s_p0_sentSize, .int s_p0_latestFinding, .int s_p0_latestTries, .long s_p0_latestAsked], vJ T (a_W 2) 45 s_W_near, vI T (a_p0 3) 6 s_p0_findingTimes, vR T 2 (a_p0 0) 6 s_p0_worlds]) [1] [0, 2, 3, 4] rfl rfl rfl rfl (by decide) rfl dX6_perp_34 (fun r_34 u h => ?_)
      refine v_ws (ws' := (cl_X6_perp T o_p0 a_p0 o_S o_W a_W s_p0_sentSize s_p0_latestFinding s_p0_latestTries s_p0_latestAsked s_W_there s_W_kind s_W_tag s_W_size s_W_lineCount s_W_near s_p0_findingTimes s_p0_worlds)) [0, 4, 1, 2, 3] rfl rfl ?_
      refine v_if_ne X (tgt := 42) dX6_perp_37 (by decide) (fun c_37 => ?_) (fun c_37 => ?_)
      · replace h := h.1 c_37
        refine v_aload_n X 1 dX6_perp_42 rfl rfl ?_
        refine v_aload X 0 dX6_perp_43 rfl ?_
        refine v_lload_n X 3 dX6_perp_45 rfl rfl ?_
        refine v_callVl X (As := [.long x_2]) (rest := [.ref o_p0]) 1 0 (c_X5_nearToAll (l := vl E) (D := vD E) (T := T) (o_p0 := o_W) (a_p0 := a_W) (s_p0_there := s_W_there) (s_p0_kind := s_W_kind) (s_p0_tag := s_W_tag) (s_p0_size := s_W_size) (s_p0_lineCount := s_W_lineCount) (s_p0_near := s_W_near) (x_1 := x_2) h) gX6_perp_X5_nearToAll rfl rfl (by decide +kernel) ⟨Nat.zero_le _, Nat.zero_le _⟩ ⟨rfl, rfl, by decide, by decide⟩ (Nat.le_of_ble_eq_true rfl) rfl rfl (wr := [vO o_p0 3 [.ref (a_p0 0), .ref (a_p0 1), .ref (a_p0 2), .ref (a_p0 3), .ref (a_p0 4), .ref (a_p0 5), .ref (a_p0 6), .ref (a_p0 7), .ref o_S, .int s_p0_sentSize, .int s_p0_latestFinding, .int s_p0_latestTries, .long s_p0_latestAsked], vI T (a_p0 3) 6 s_p0_findingTimes, vR T 2 (a_p0 0) 6 s_p0_worlds]) [1, 2] [0, 3, 4] rfl rfl rfl rfl (by decide) rfl dX6_perp_46 (fun r_46 u h => ?_)
        refine v_ws (ws' := (cl_X6_perp T o_p0 a_p0 o_S o_W a_W s_p0_sentSize s_p0_latestFinding s_p0_latestTries s_p0_latestAsked s_W_there s_W_kind s_W_tag s_W_size s_W_lineCount s_W_near s_p0_findingTimes s_p0_worlds)) [0, 3, 4, 1, 2] rfl rfl ?_
        refine v_callVi X (As := [.long r_46]) (rest := []) 1 0 (c_X6_askedSet (l := vl E) (D := vD E) (T := T) (o_p0 := o_p0) (a_p0 := a_p0) (o_S := o_S) (s_p0_sentSize := s_p0_sentSize) (s_p0_latestFinding := s_p0_latestFinding) (s_p0_latestTries := s_p0_latestTries) (s_p0_latestAsked := s_p0_latestAsked) (x_1 := r_46) h) gX6_perp_X6_askedSet rfl rfl (by decide +kernel) ⟨Nat.zero_le _, Nat.zero_le _⟩ ⟨rfl, rfl, by decide, by decide⟩ (Nat.le_of_ble_eq_true rfl) rfl rfl (wr := [vO o_W 2 [.ref (a_W 0), .ref (a_W 1), .ref (a_W 2), .int s_W_there, .int s_W_kind, .int s_W_tag, .int s_W_size, .int s_W_lineCount], vJ T (a_W 2) 45 s_W_near, vI T (a_p0 3) 6 s_p0_findingTimes, vR T 2 (a_p0 0) 6 s_p0_worlds]) [0] [1, 2, 3, 4] rfl rfl rfl rfl (by decide) rfl dX6_perp_49 (fun r_49 u h => ?_)
        obtain ⟨u_49_0, rfl⟩ : ∃ z, z = u := ⟨_, rfl⟩
        refine v_ws (ws' := (cl_X6_perp T o_p0 a_p0 o_S o_W a_W s_p0_sentSize s_p0_latestFinding s_p0_latestTries u_49_0 s_W_there s_W_kind s_W_tag s_W_size s_W_lineCount s_W_near s_p0_findingTimes s_p0_worlds)) [4, 0, 1, 2, 3] rfl rfl ?_
        exact r _ _ _ (s_p0_latestFinding, u_49_0, s_p0_findingTimes) _ dX6_perp_52 h rfl
      · replace h := h.2 c_37
        refine v_iconst X dX6_perp_40 (v := (-1 : Int32)) (by decide) ?_
        exact r _ _ _ (s_p0_latestFinding, s_p0_latestAsked, s_p0_findingTimes) _ dX6_perp_41 h rfl
    · replace h := h.2 c_22
      refine v_aload_n X 1 dX6_perp_25 rfl rfl ?_
      refine v_iconst X dX6_perp_26 (v := (1 : Int32)) (by decide) ?_
      refine v_callVi X (As := [.int (1 : Int32)]) (rest := []) 1 0 (c_X6_refused (l := vl E) (D := vD E) (T := T) (o_p0 := o_p0) (a_p0 := a_p0) (o_S := o_S) (s_p0_sentSize := s_p0_sentSize) (s_p0_latestFinding := s_p0_latestFinding) (s_p0_latestTries := s_p0_latestTries) (s_p0_latestAsked := s_p0_latestAsked) (s_p0_findingTimes := s_p0_findingTimes) (x_1 := (1 : Int32)) h) gX6_perp_X6_refused rfl rfl (by decide +kernel) ⟨Nat.zero_le _, Nat.zero_le _⟩ ⟨rfl, rfl, by decide, by decide⟩ (Nat.le_of_ble_eq_true rfl) rfl rfl (wr := [vO o_W 2 [.ref (a_W 0), .ref (a_W 1), .ref (a_W 2), .int s_W_there, .int s_W_kind, .int s_W_tag, .int s_W_size, .int s_W_lineCount], vJ T (a_W 2) 45 s_W_near, vR T 2 (a_p0 0) 6 s_p0_worlds]) [0, 3] [1, 2, 4] rfl rfl rfl rfl (by decide) rfl dX6_perp_27 (fun r_27 u h => ?_)
      obtain ⟨u_27_0, u_27_1⟩ := u
      dsimp only at h
      refine v_ws (ws' := (cl_X6_perp T o_p0 a_p0 o_S o_W a_W s_p0_sentSize u_27_0 s_p0_latestTries s_p0_latestAsked s_W_there s_W_kind s_W_tag s_W_size s_W_lineCount s_W_near u_27_1 s_p0_worlds)) [3, 0, 1, 4, 2] rfl rfl ?_
      exact r _ _ _ (u_27_0, s_p0_latestAsked, u_27_1) _ dX6_perp_30 h rfl
  · replace h := h.2 c_4
    refine v_iconst X dX6_perp_7 (v := (-1 : Int32)) (by decide) ?_
    exact r _ _ _ (s_p0_latestFinding, s_p0_latestAsked, s_p0_findingTimes) _ dX6_perp_8 h rfl
-- X6_span
abbrev cl_X6_span (T : Nat → ClassId) (o_p0 : Nat) (a_p0 : Nat → Nat) (o_S : Nat) (o_W : Nat) (a_W : Nat → Nat) (s_p0_sentSize : Int32) (s_p0_latestFinding : Int32) (s_p0_latestTries : Int32) (s_p0_latestAsked : Int64) (s_W_there : Int32) (s_W_kind : Int32) (s_W_tag : Int32) (s_W_size : Int32) (s_W_lineCount : Int32) (s_W_near : Nat → Int64) (s_p0_findingTimes : Nat → Int32) (s_p0_worlds : Nat → Option Nat) : va_W := [vO o_p0 3 [.ref (a_p0 0), .ref (a_p0 1), .ref (a_p0 2), .ref (a_p0 3), .ref (a_p0 4), .ref (a_p0 5), .ref (a_p0 6), .ref (a_p0 7), .ref o_S, .int s_p0_sentSize, .int s_p0_latestFinding, .int s_p0_latestTries, .long s_p0_latestAsked], vO o_W 2 [.ref (a_W 0), .ref (a_W 1), .ref (a_W 2), .int s_W_there, .int s_W_kind, .int s_W_tag, .int s_W_size, .int s_W_lineCount], vJ T (a_W 2) 45 s_W_near, vI T (a_p0 3) 6 s_p0_findingTimes, vR T 2 (a_p0 0) 6 s_p0_worlds]
abbrev r_X6_span (E : vE) (T : Nat → ClassId) (o_p0 : Nat) (a_p0 : Nat → Nat) (o_S : Nat) (o_W : Nat) (a_W : Nat → Nat) (s_p0_sentSize : Int32) (s_p0_latestTries : Int32) (s_W_there : Int32) (s_W_kind : Int32) (s_W_tag : Int32) (s_W_size : Int32) (s_W_lineCount : Int32) (s_W_near : Nat → Int64) (s_p0_worlds : Nat → Option Nat) (Q : Int32 → (Int32) → (Int64) → (Nat → Int32) → Prop) : Prop := vRi E cX6_span (fun v (u : (Int32) × (Int64) × (Nat → Int32)) => Q v u.1 u.2.1 u.2.2) (fun (u : (Int32) × (Int64) × (Nat → Int32)) => (cl_X6_span T o_p0 a_p0 o_S o_W a_W s_p0_sentSize u.1 s_p0_latestTries u.2.1 s_W_there s_W_kind s_W_tag s_W_size s_W_lineCount s_W_near u.2.2 s_p0_worlds))
def w_X6_span_49 (s_p0_latestFinding : Int32) (s_p0_latestAsked : Int64) (s_W_there : Int32) (s_W_size : Int32) (s_W_near : Nat → Int64) (s_p0_findingTimes : Nat → Int32) (s_p0_worlds : Nat → Option Nat) (o_W : Nat) (Q : Int32 → (Int32) → (Int64) → (Nat → Int32) → Prop) : Prop := (w_X6_refused (2 : Int32) s_p0_latestFinding s_p0_findingTimes (fun (r_51 : Int32) (u_51_0 : Int32) (u_51_1 : Nat → Int32) => (Q r_51 u_51_0 s_p0_latestAsked u_51_1)))
def w_X6_span (x_1 : Int32) (x_2 : Int32) (x_3 : Int32) (s_p0_latestFinding : Int32) (s_p0_latestAsked : Int64) (s_W_there : Int32) (s_W_size : Int32) (s_W_near : Nat → Int64) (s_p0_findingTimes : Nat → Int32) (s_p0_worlds : Nat → Option Nat) (o_W : Nat) (Q : Int32 → (Int32) → (Int64) → (Nat → Int32) → Prop) : Prop := (w_X6_isWorldNumber x_1 (fun (r_1 : Int32) => ((¬ r_1 = 0 → (vp_in x_1 6 ∧ s_p0_worlds (x_1).toNatClampNeg = some o_W ∧ ((¬ s_W_there = 0 → (w_X5_hasPoint x_2 s_W_size (fun (r_34 : Int32) => ((r_34 = 0 → (w_X6_span_49 s_p0_latestFinding s_p0_latestAsked s_W_there s_W_size s_W_near s_p0_findingTimes s_p0_worlds o_W Q)) ∧ (¬ r_34 = 0 → (w_X5_hasPoint x_3 s_W_size (fun (r_43 : Int32) => ((¬ r_43 = 0 → (w_X5_areNear x_2 x_3 s_W_near (fun (r_59 : Int32) => ((r_59 = 0 → (w_X5_spanSet x_2 x_3 s_W_size s_W_near (fun (r_73 : Int64) => (w_X6_askedSet r_73 s_p0_latestAsked (fun (r_76 : Int32) (u_76_0 : Int64) => (Q r_76 s_p0_latestFinding u_76_0 s_p0_findingTimes)))))) ∧ (¬ r_59 = 0 → (Q (-4 : Int32) s_p0_latestFinding s_p0_latestAsked s_p0_findingTimes)))))) ∧ (r_43 = 0 → (w_X6_span_49 s_p0_latestFinding s_p0_latestAsked s_W_there s_W_size s_W_near s_p0_findingTimes s_p0_worlds o_W Q)))))))))) ∧ (s_W_there = 0 → (w_X6_refused (1 : Int32) s_p0_latestFinding s_p0_findingTimes (fun (r_27 : Int32) (u_27_0 : Int32) (u_27_1 : Nat → Int32) => (Q r_27 u_27_0 s_p0_latestAsked u_27_1))))))) ∧ (r_1 = 0 → (Q (-1 : Int32) s_p0_latestFinding s_p0_latestAsked s_p0_findingTimes)))))
-- X6_span
theorem iX6_span_X5 : ∀ w ∈ wsX50, w ∈ wsX6_span := by decide +kernel
theorem iX6_span_X6 : ∀ w ∈ wsX60, w ∈ wsX6_span := by decide +kernel
set_option maxHeartbeats 4000000 in
set_option maxRecDepth 100000 in
theorem k_X6_span_49 {E : vE} {T : Nat → ClassId} {o_p0 : Nat} {a_p0 : Nat → Nat} {o_S : Nat} {o_W : Nat} {a_W : Nat → Nat} {s_p0_sentSize : Int32} {s_p0_latestFinding : Int32} {s_p0_latestTries : Int32} {s_p0_latestAsked : Int64} {s_W_there : Int32} {s_W_kind : Int32} {s_W_tag : Int32} {s_W_size : Int32} {s_W_lineCount : Int32} {s_W_near : Nat → Int64} {s_p0_findingTimes : Nat → Int32} {s_p0_worlds : Nat → Option Nat} {Q : Int32 → (Int32) → (Int64) → (Nat → Int32) → Prop} (X : vX E cX6_span 5 RX6 wsX6_span (vT T) (vr 3 69)) (r : r_X6_span E T o_p0 a_p0 o_S o_W a_W s_p0_sentSize s_p0_latestTries s_W_there s_W_kind s_W_tag s_W_size s_W_lineCount s_W_near s_p0_worlds Q) (h : w_X6_span_49 s_p0_latestFinding s_p0_latestAsked s_W_there s_W_size s_W_near s_p0_findingTimes s_p0_worlds o_W Q) : V E 0 0 49 [(0, .ref o_p0)] [] (cl_X6_span T o_p0 a_p0 o_S o_W a_W s_p0_sentSize s_p0_latestFinding s_p0_latestTries s_p0_latestAsked s_W_there s_W_kind s_W_tag s_W_size s_W_lineCount s_W_near s_p0_findingTimes s_p0_worlds) := by
  unfold w_X6_span_49 at h
  refine v_aload_n X 0 dX6_span_49 rfl rfl ?_
  refine v_iconst X dX6_span_50 (v := (2 : Int32)) (by decide) ?_
  refine v_callVi X (As := [.int (2 : Int32)]) (rest := []) 1 0 (c_X6_refused (l := vl E) (D := vD E) (T := T) (o_p0 := o_p0) (a_p0 := a_p0) (o_S := o_S) (s_p0_sentSize := s_p0_sentSize) (s_p0_latestFinding := s_p0_latestFinding) (s_p0_latestTries := s_p0_latestTries) (s_p0_latestAsked := s_p0_latestAsked) (s_p0_findingTimes := s_p0_findingTimes) (x_1 := (2 : Int32)) h) gX6_span_X6_refused rfl rfl (by decide +kernel) ⟨Nat.zero_le _, Nat.zero_le _⟩ ⟨rfl, rfl, by decide, by decide⟩ (Nat.le_of_ble_eq_true rfl) rfl rfl (wr := [vO o_W 2 [.ref (a_W 0), .ref (a_W 1), .ref (a_W 2), .int s_W_there, .int s_W_kind, .int s_W_tag, .int s_W_size, .int s_W_lineCount], vJ T (a_W 2) 45 s_W_near, vR T 2 (a_p0 0) 6 s_p0_worlds]) [0, 3] [1, 2, 4] rfl rfl rfl rfl (by decide) rfl dX6_span_51 (fun r_51 u h => ?_)
  obtain ⟨u_51_0, u_51_1⟩ := u
  dsimp only at h
  refine v_ws (ws' := (cl_X6_span T o_p0 a_p0 o_S o_W a_W s_p0_sentSize u_51_0 s_p0_latestTries s_p0_latestAsked s_W_there s_W_kind s_W_tag s_W_size s_W_lineCount s_W_near u_51_1 s_p0_worlds)) [3, 0, 1, 4, 2] rfl rfl ?_
  exact r _ _ _ (u_51_0, s_p0_latestAsked, u_51_1) _ dX6_span_54 h rfl
set_option maxHeartbeats 4000000 in
set_option maxRecDepth 100000 in
theorem c_X6_span {l : Launch} {D : va_G} {T : Nat → ClassId} {o_p0 : Nat} {a_p0 : Nat → Nat} {o_S : Nat} {o_W : Nat} {a_W : Nat → Nat} {s_p0_sentSize : Int32} {s_p0_latestFinding : Int32} {s_p0_latestTries : Int32} {s_p0_latestAsked : Int64} {s_W_there : Int32} {s_W_kind : Int32} {s_W_tag : Int32} {s_W_size : Int32} {s_W_lineCount : Int32} {s_W_near : Nat → Int64} {s_p0_findingTimes : Nat → Int32} {s_p0_worlds : Nat → Option Nat} {x_1 : Int32} {x_2 : Int32} {x_3 : Int32} {Q : Int32 → (Int32) → (Int64) → (Nat → Int32) → Prop} (h : w_X6_span x_1 x_2 x_3 s_p0_latestFinding s_p0_latestAsked s_W_there s_W_size s_W_near s_p0_findingTimes s_p0_worlds o_W Q) : vCi l D (vT T) yX6_span wsX6_span (vr 3 69) [.ref o_p0, .int x_1, .int x_2, .int x_3] (cl_X6_span T o_p0 a_p0 o_S o_W a_W s_p0_sentSize s_p0_latestFinding s_p0_latestTries s_p0_latestAsked s_W_there s_W_kind s_W_tag s_W_size s_W_lineCount s_W_near s_p0_findingTimes s_p0_worlds) (fun v (u : (Int32) × (Int64) × (Nat → Int32)) => Q v u.1 u.2.1 u.2.2) (fun (u : (Int32) × (Int64) × (Nat → Int32)) => (cl_X6_span T o_p0 a_p0 o_S o_W a_W s_p0_sentSize u.1 s_p0_latestTries u.2.1 s_W_there s_W_kind s_W_tag s_W_size s_W_lineCount s_W_near u.2.2 s_p0_worlds)) := by
  refine vC_i (cc := cX6_span) (nL := 5) (by decide +kernel) rfl ⟨rfl, rfl⟩ (Nat.le_of_ble_eq_true rfl) rfl ?_
  intro E el eD X r
  unfold w_X6_span at h
  refine v_iload_n X 1 dX6_span_0 rfl rfl ?_
  refine v_callSi0 X (As := [.int x_1]) (rest := []) 1 (c_X6_isWorldNumber (l := vl E) (D := vD E) (T := T) (x_0 := x_1) h) gX6_span_X6_isWorldNumber rfl rfl (by decide +kernel) ⟨Nat.zero_le _, Nat.zero_le _⟩ ⟨rfl, rfl, by decide, by decide⟩ (Nat.le_of_ble_eq_true rfl) rfl dX6_span_1 (fun r_1 h => ?_)
  refine v_if_ne X (tgt := 9) dX6_span_4 (by decide) (fun c_4 => ?_) (fun c_4 => ?_)
  · replace h := h.1 c_4
    refine v_aload_n X 0 dX6_span_9 rfl rfl ?_
    refine v_get X 0 0 (F := TX6) (N := 13) iX6_span_X6 rfl rfl (by decide) (List.mem_of_getElem? (i := 1) rfl) rfl rfl dX6_span_10 ?_
    refine v_iload_n X 1 dX6_span_13 rfl rfl ?_
    refine v_aald X 4 2 rfl rfl h.1 h.2.1 dX6_span_14 ?_
    replace h := h.2.2
    refine v_astore X (lv' := [(4, .ref o_W), (0, .ref o_p0), (1, .int x_1), (2, .int x_2), (3, .int x_3)]) dX6_span_15 (by decide) rfl ?_
    refine v_aload X 0 dX6_span_17 rfl ?_
    refine v_getN X 1 3 (F := TX5) (N := 8) iX6_span_X5 rfl rfl (by decide) (List.mem_of_getElem? (i := 23) rfl) rfl rfl dX6_span_19 ?_
    refine v_if_ne X (tgt := 31) dX6_span_22 (by decide) (fun c_22 => ?_) (fun c_22 => ?_)
    · replace h := h.1 c_22
      refine v_aload X 0 dX6_span_31 rfl ?_
      refine v_iload_n X 3 dX6_span_33 rfl rfl ?_
      refine v_callVi X (As := [.int x_2]) (rest := []) 1 0 (c_X5_hasPoint (l := vl E) (D := vD E) (T := T) (o_p0 := o_W) (a_p0 := a_W) (s_p0_there := s_W_there) (s_p0_kind := s_W_kind) (s_p0_tag := s_W_tag) (s_p0_size := s_W_size) (s_p0_lineCount := s_W_lineCount) (x_1 := x_2) h) gX6_span_X5_hasPoint rfl rfl (by decide +kernel) ⟨Nat.zero_le _, Nat.zero_le _⟩ ⟨rfl, rfl, by decide, by decide⟩ (Nat.le_of_ble_eq_true rfl) rfl rfl (wr := [vO o_p0 3 [.ref (a_p0 0), .ref (a_p0 1), .ref (a_p0 2), .ref (a_p0 3), .ref (a_p0 4), .ref (a_p0 5), .ref (a_p0 6), .ref (a_p0 7), .ref o_S, .int s_p0_sentSize, .int s_p0_latestFinding, .int s_p0_latestTries, .long s_p0_latestAsked], vJ T (a_W 2) 45 s_W_near, vI T (a_p0 3) 6 s_p0_findingTimes, vR T 2 (a_p0 0) 6 s_p0_worlds]) [1] [0, 2, 3, 4] rfl rfl rfl rfl (by decide) rfl dX6_span_34 (fun r_34 u h => ?_)
      refine v_ws (ws' := (cl_X6_span T o_p0 a_p0 o_S o_W a_W s_p0_sentSize s_p0_latestFinding s_p0_latestTries s_p0_latestAsked s_W_there s_W_kind s_W_tag s_W_size s_W_lineCount s_W_near s_p0_findingTimes s_p0_worlds)) [0, 4, 1, 2, 3] rfl rfl ?_
      refine v_if_eq X (tgt := 49) dX6_span_37 (by decide) (fun c_37 => ?_) (fun c_37 => ?_)
      · replace h := h.1 c_37
        refine v_lv (lv' := [(0, .ref o_p0)]) [1] rfl ?_
        exact k_X6_span_49 X r h
      · replace h := h.2 c_37
        refine v_aload X 0 dX6_span_40 rfl ?_
        refine v_iload_n X 4 dX6_span_42 rfl rfl ?_
        refine v_callVi X (As := [.int x_3]) (rest := []) 1 0 (c_X5_hasPoint (l := vl E) (D := vD E) (T := T) (o_p0 := o_W) (a_p0 := a_W) (s_p0_there := s_W_there) (s_p0_kind := s_W_kind) (s_p0_tag := s_W_tag) (s_p0_size := s_W_size) (s_p0_lineCount := s_W_lineCount) (x_1 := x_3) h) gX6_span_X5_hasPoint rfl rfl (by decide +kernel) ⟨Nat.zero_le _, Nat.zero_le _⟩ ⟨rfl, rfl, by decide, by decide⟩ (Nat.le_of_ble_eq_true rfl) rfl rfl (wr := [vO o_p0 3 [.ref (a_p0 0), .ref (a_p0 1), .ref (a_p0 2), .ref (a_p0 3), .ref (a_p0 4), .ref (a_p0 5), .ref (a_p0 6), .ref (a_p0 7), .ref o_S, .int s_p0_sentSize, .int s_p0_latestFinding, .int s_p0_latestTries, .long s_p0_latestAsked], vJ T (a_W 2) 45 s_W_near, vI T (a_p0 3) 6 s_p0_findingTimes, vR T 2 (a_p0 0) 6 s_p0_worlds]) [1] [0, 2, 3, 4] rfl rfl rfl rfl (by decide) rfl dX6_span_43 (fun r_43 u h => ?_)
        refine v_ws (ws' := (cl_X6_span T o_p0 a_p0 o_S o_W a_W s_p0_sentSize s_p0_latestFinding s_p0_latestTries s_p0_latestAsked s_W_there s_W_kind s_W_tag s_W_size s_W_lineCount s_W_near s_p0_findingTimes s_p0_worlds)) [0, 4, 1, 2, 3] rfl rfl ?_
        refine v_if_ne X (tgt := 55) dX6_span_46 (by decide) (fun c_46 => ?_) (fun c_46 => ?_)
        · replace h := h.1 c_46
          refine v_aload X 0 dX6_span_55 rfl ?_
          refine v_iload_n X 3 dX6_span_57 rfl rfl ?_
          refine v_iload_n X 4 dX6_span_58 rfl rfl ?_
          refine v_callVi X (As := [.int x_2, .int x_3]) (rest := []) 2 0 (c_X5_areNear (l := vl E) (D := vD E) (T := T) (o_p0 := o_W) (a_p0 := a_W) (s_p0_there := s_W_there) (s_p0_kind := s_W_kind) (s_p0_tag := s_W_tag) (s_p0_size := s_W_size) (s_p0_lineCount := s_W_lineCount) (s_p0_near := s_W_near) (x_1 := x_2) (x_2 := x_3) h) gX6_span_X5_areNear rfl rfl (by decide +kernel) ⟨Nat.zero_le _, Nat.zero_le _⟩ ⟨rfl, rfl, by decide, by decide⟩ (Nat.le_of_ble_eq_true rfl) rfl rfl (wr := [vO o_p0 3 [.ref (a_p0 0), .ref (a_p0 1), .ref (a_p0 2), .ref (a_p0 3), .ref (a_p0 4), .ref (a_p0 5), .ref (a_p0 6), .ref (a_p0 7), .ref o_S, .int s_p0_sentSize, .int s_p0_latestFinding, .int s_p0_latestTries, .long s_p0_latestAsked], vI T (a_p0 3) 6 s_p0_findingTimes, vR T 2 (a_p0 0) 6 s_p0_worlds]) [1, 2] [0, 3, 4] rfl rfl rfl rfl (by decide) rfl dX6_span_59 (fun r_59 u h => ?_)
          refine v_ws (ws' := (cl_X6_span T o_p0 a_p0 o_S o_W a_W s_p0_sentSize s_p0_latestFinding s_p0_latestTries s_p0_latestAsked s_W_there s_W_kind s_W_tag s_W_size s_W_lineCount s_W_near s_p0_findingTimes s_p0_worlds)) [0, 3, 4, 1, 2] rfl rfl ?_
          refine v_if_eq X (tgt := 68) dX6_span_62 (by decide) (fun c_62 => ?_) (fun c_62 => ?_)
          · replace h := h.1 c_62
            refine v_aload_n X 1 dX6_span_68 rfl rfl ?_
            refine v_aload X 0 dX6_span_69 rfl ?_
            refine v_iload_n X 3 dX6_span_71 rfl rfl ?_
            refine v_iload_n X 4 dX6_span_72 rfl rfl ?_
            refine v_callVl X (As := [.int x_2, .int x_3]) (rest := [.ref o_p0]) 2 0 (c_X5_spanSet (l := vl E) (D := vD E) (T := T) (o_p0 := o_W) (a_p0 := a_W) (s_p0_there := s_W_there) (s_p0_kind := s_W_kind) (s_p0_tag := s_W_tag) (s_p0_size := s_W_size) (s_p0_lineCount := s_W_lineCount) (s_p0_near := s_W_near) (x_1 := x_2) (x_2 := x_3) h) gX6_span_X5_spanSet rfl rfl (by decide +kernel) ⟨Nat.zero_le _, Nat.zero_le _⟩ ⟨rfl, rfl, by decide, by decide⟩ (Nat.le_of_ble_eq_true rfl) rfl rfl (wr := [vO o_p0 3 [.ref (a_p0 0), .ref (a_p0 1), .ref (a_p0 2), .ref (a_p0 3), .ref (a_p0 4), .ref (a_p0 5), .ref (a_p0 6), .ref (a_p0 7), .ref o_S, .int s_p0_sentSize, .int s_p0_latestFinding, .int s_p0_latestTries, .long s_p0_latestAsked], vI T (a_p0 3) 6 s_p0_findingTimes, vR T 2 (a_p0 0) 6 s_p0_worlds]) [1, 2] [0, 3, 4] rfl rfl rfl rfl (by decide) rfl dX6_span_73 (fun r_73 u h => ?_)
            refine v_ws (ws' := (cl_X6_span T o_p0 a_p0 o_S o_W a_W s_p0_sentSize s_p0_latestFinding s_p0_latestTries s_p0_latestAsked s_W_there s_W_kind s_W_tag s_W_size s_W_lineCount s_W_near s_p0_findingTimes s_p0_worlds)) [0, 3, 4, 1, 2] rfl rfl ?_
            refine v_callVi X (As := [.long r_73]) (rest := []) 1 0 (c_X6_askedSet (l := vl E) (D := vD E) (T := T) (o_p0 := o_p0) (a_p0 := a_p0) (o_S := o_S) (s_p0_sentSize := s_p0_sentSize) (s_p0_latestFinding := s_p0_latestFinding) (s_p0_latestTries := s_p0_latestTries) (s_p0_latestAsked := s_p0_latestAsked) (x_1 := r_73) h) gX6_span_X6_askedSet rfl rfl (by decide +kernel) ⟨Nat.zero_le _, Nat.zero_le _⟩ ⟨rfl, rfl, by decide, by decide⟩ (Nat.le_of_ble_eq_true rfl) rfl rfl (wr := [vO o_W 2 [.ref (a_W 0), .ref (a_W 1), .ref (a_W 2), .int s_W_there, .int s_W_kind, .int s_W_tag, .int s_W_size, .int s_W_lineCount], vJ T (a_W 2) 45 s_W_near, vI T (a_p0 3) 6 s_p0_findingTimes, vR T 2 (a_p0 0) 6 s_p0_worlds]) [0] [1, 2, 3, 4] rfl rfl rfl rfl (by decide) rfl dX6_span_76 (fun r_76 u h => ?_)
            obtain ⟨u_76_0, rfl⟩ : ∃ z, z = u := ⟨_, rfl⟩
            refine v_ws (ws' := (cl_X6_span T o_p0 a_p0 o_S o_W a_W s_p0_sentSize s_p0_latestFinding s_p0_latestTries u_76_0 s_W_there s_W_kind s_W_tag s_W_size s_W_lineCount s_W_near s_p0_findingTimes s_p0_worlds)) [4, 0, 1, 2, 3] rfl rfl ?_
            exact r _ _ _ (s_p0_latestFinding, u_76_0, s_p0_findingTimes) _ dX6_span_79 h rfl
          · replace h := h.2 c_62
            refine v_bipush X dX6_span_65 (v := (-4 : Int32)) (by decide) ?_
            exact r _ _ _ (s_p0_latestFinding, s_p0_latestAsked, s_p0_findingTimes) _ dX6_span_67 h rfl
        · replace h := h.2 c_46
          refine v_lv (lv' := [(0, .ref o_p0)]) [1] rfl ?_
          exact k_X6_span_49 X r h
    · replace h := h.2 c_22
      refine v_aload_n X 1 dX6_span_25 rfl rfl ?_
      refine v_iconst X dX6_span_26 (v := (1 : Int32)) (by decide) ?_
      refine v_callVi X (As := [.int (1 : Int32)]) (rest := []) 1 0 (c_X6_refused (l := vl E) (D := vD E) (T := T) (o_p0 := o_p0) (a_p0 := a_p0) (o_S := o_S) (s_p0_sentSize := s_p0_sentSize) (s_p0_latestFinding := s_p0_latestFinding) (s_p0_latestTries := s_p0_latestTries) (s_p0_latestAsked := s_p0_latestAsked) (s_p0_findingTimes := s_p0_findingTimes) (x_1 := (1 : Int32)) h) gX6_span_X6_refused rfl rfl (by decide +kernel) ⟨Nat.zero_le _, Nat.zero_le _⟩ ⟨rfl, rfl, by decide, by decide⟩ (Nat.le_of_ble_eq_true rfl) rfl rfl (wr := [vO o_W 2 [.ref (a_W 0), .ref (a_W 1), .ref (a_W 2), .int s_W_there, .int s_W_kind, .int s_W_tag, .int s_W_size, .int s_W_lineCount], vJ T (a_W 2) 45 s_W_near, vR T 2 (a_p0 0) 6 s_p0_worlds]) [0, 3] [1, 2, 4] rfl rfl rfl rfl (by decide) rfl dX6_span_27 (fun r_27 u h => ?_)
      obtain ⟨u_27_0, u_27_1⟩ := u
      dsimp only at h
      refine v_ws (ws' := (cl_X6_span T o_p0 a_p0 o_S o_W a_W s_p0_sentSize u_27_0 s_p0_latestTries s_p0_latestAsked s_W_there s_W_kind s_W_tag s_W_size s_W_lineCount s_W_near u_27_1 s_p0_worlds)) [3, 0, 1, 4, 2] rfl rfl ?_
      exact r _ _ _ (u_27_0, s_p0_latestAsked, u_27_1) _ dX6_span_30 h rfl
  · replace h := h.2 c_4
    refine v_iconst X dX6_span_7 (v := (-1 : Int32)) (by decide) ?_
    exact r _ _ _ (s_p0_latestFinding, s_p0_latestAsked, s_p0_findingTimes) _ dX6_span_8 h rfl
-- X6_regular
abbrev cl_X6_regular (T : Nat → ClassId) (o_p0 : Nat) (a_p0 : Nat → Nat) (o_S : Nat) (o_W : Nat) (a_W : Nat → Nat) (s_p0_sentSize : Int32) (s_p0_latestFinding : Int32) (s_p0_latestTries : Int32) (s_p0_latestAsked : Int64) (s_W_there : Int32) (s_W_kind : Int32) (s_W_tag : Int32) (s_W_size : Int32) (s_W_lineCount : Int32) (s_W_near : Nat → Int64) (s_W_through : Nat → Int64) (s_p0_findingTimes : Nat → Int32) (s_p0_worlds : Nat → Option Nat) : va_W := [vO o_p0 3 [.ref (a_p0 0), .ref (a_p0 1), .ref (a_p0 2), .ref (a_p0 3), .ref (a_p0 4), .ref (a_p0 5), .ref (a_p0 6), .ref (a_p0 7), .ref o_S, .int s_p0_sentSize, .int s_p0_latestFinding, .int s_p0_latestTries, .long s_p0_latestAsked], vO o_W 2 [.ref (a_W 0), .ref (a_W 1), .ref (a_W 2), .int s_W_there, .int s_W_kind, .int s_W_tag, .int s_W_size, .int s_W_lineCount], vJ T (a_W 2) 45 s_W_near, vJ T (a_W 1) 45 s_W_through, vI T (a_p0 3) 6 s_p0_findingTimes, vR T 2 (a_p0 0) 6 s_p0_worlds]
abbrev r_X6_regular (E : vE) (T : Nat → ClassId) (o_p0 : Nat) (a_p0 : Nat → Nat) (o_S : Nat) (o_W : Nat) (a_W : Nat → Nat) (s_p0_sentSize : Int32) (s_p0_latestTries : Int32) (s_p0_latestAsked : Int64) (s_W_there : Int32) (s_W_kind : Int32) (s_W_tag : Int32) (s_W_size : Int32) (s_W_lineCount : Int32) (s_W_near : Nat → Int64) (s_W_through : Nat → Int64) (s_p0_worlds : Nat → Option Nat) (Q : Int32 → (Int32) → (Nat → Int32) → Prop) : Prop := vRi E cX6_regular (fun v (u : (Int32) × (Nat → Int32)) => Q v u.1 u.2) (fun (u : (Int32) × (Nat → Int32)) => (cl_X6_regular T o_p0 a_p0 o_S o_W a_W s_p0_sentSize u.1 s_p0_latestTries s_p0_latestAsked s_W_there s_W_kind s_W_tag s_W_size s_W_lineCount s_W_near s_W_through u.2 s_p0_worlds))
def w_X6_regular_68 (t_0 : Int32) (s_p0_latestFinding : Int32) (s_W_there : Int32) (s_W_size : Int32) (s_W_lineCount : Int32) (s_W_near : Nat → Int64) (s_W_through : Nat → Int64) (s_p0_findingTimes : Nat → Int32) (s_p0_worlds : Nat → Option Nat) (o_W : Nat) (Q : Int32 → (Int32) → (Nat → Int32) → Prop) : Prop := (Q t_0 s_p0_latestFinding s_p0_findingTimes)
def w_X6_regular (x_1 : Int32) (x_2 : Int32) (s_p0_latestFinding : Int32) (s_W_there : Int32) (s_W_size : Int32) (s_W_lineCount : Int32) (s_W_near : Nat → Int64) (s_W_through : Nat → Int64) (s_p0_findingTimes : Nat → Int32) (s_p0_worlds : Nat → Option Nat) (o_W : Nat) (Q : Int32 → (Int32) → (Nat → Int32) → Prop) : Prop := (w_X6_isWorldNumber x_1 (fun (r_1 : Int32) => ((¬ r_1 = 0 → (vp_in x_1 6 ∧ s_p0_worlds (x_1).toNatClampNeg = some o_W ∧ ((¬ s_W_there = 0 → (w_X5_hasPoint x_2 s_W_size (fun (r_31 : Int32) => ((¬ r_31 = 0 → (w_X5_orderOfPoints s_W_size s_W_lineCount s_W_through (fun (r_44 : Int32) => ((¬ r_44 = (-9 : Int32) → (w_X5_isRegular x_2 s_W_size s_W_lineCount s_W_near s_W_through (fun (r_57 : Int32) => ((r_57 = 0 → (w_X6_regular_68 (0 : Int32) s_p0_latestFinding s_W_there s_W_size s_W_lineCount s_W_near s_W_through s_p0_findingTimes s_p0_worlds o_W Q)) ∧ (¬ r_57 = 0 → (w_X6_regular_68 (1 : Int32) s_p0_latestFinding s_W_there s_W_size s_W_lineCount s_W_near s_W_through s_p0_findingTimes s_p0_worlds o_W Q)))))) ∧ (r_44 = (-9 : Int32) → (Q (-4 : Int32) s_p0_latestFinding s_p0_findingTimes)))))) ∧ (r_31 = 0 → (w_X6_refused (2 : Int32) s_p0_latestFinding s_p0_findingTimes (fun (r_39 : Int32) (u_39_0 : Int32) (u_39_1 : Nat → Int32) => (Q r_39 u_39_0 u_39_1)))))))) ∧ (s_W_there = 0 → (w_X6_refused (1 : Int32) s_p0_latestFinding s_p0_findingTimes (fun (r_25 : Int32) (u_25_0 : Int32) (u_25_1 : Nat → Int32) => (Q r_25 u_25_0 u_25_1))))))) ∧ (r_1 = 0 → (Q (-1 : Int32) s_p0_latestFinding s_p0_findingTimes)))))
-- X6_regular
theorem iX6_regular_X5 : ∀ w ∈ wsX50, w ∈ wsX6_regular := by decide +kernel
theorem iX6_regular_X6 : ∀ w ∈ wsX60, w ∈ wsX6_regular := by decide +kernel
set_option maxHeartbeats 4000000 in
set_option maxRecDepth 100000 in
theorem k_X6_regular_68 {E : vE} {T : Nat → ClassId} {o_p0 : Nat} {a_p0 : Nat → Nat} {o_S : Nat} {o_W : Nat} {a_W : Nat → Nat} {s_p0_sentSize : Int32} {s_p0_latestFinding : Int32} {s_p0_latestTries : Int32} {s_p0_latestAsked : Int64} {s_W_there : Int32} {s_W_kind : Int32} {s_W_tag : Int32} {s_W_size : Int32} {s_W_lineCount : Int32} {s_W_near : Nat → Int64} {s_W_through : Nat → Int64} {s_p0_findingTimes : Nat → Int32} {s_p0_worlds : Nat → Option Nat} {t_0 : Int32} {Q : Int32 → (Int32) → (Nat → Int32) → Prop} (X : vX E cX6_regular 4 RX6 wsX6_regular (vT T) (vr 4 92)) (r : r_X6_regular E T o_p0 a_p0 o_S o_W a_W s_p0_sentSize s_p0_latestTries s_p0_latestAsked s_W_there s_W_kind s_W_tag s_W_size s_W_lineCount s_W_near s_W_through s_p0_worlds Q) (h : w_X6_regular_68 t_0 s_p0_latestFinding s_W_there s_W_size s_W_lineCount s_W_near s_W_through s_p0_findingTimes s_p0_worlds o_W Q) : V E 0 0 68 [] [.int t_0] (cl_X6_regular T o_p0 a_p0 o_S o_W a_W s_p0_sentSize s_p0_latestFinding s_p0_latestTries s_p0_latestAsked s_W_there s_W_kind s_W_tag s_W_size s_W_lineCount s_W_near s_W_through s_p0_findingTimes s_p0_worlds) := by
  unfold w_X6_regular_68 at h
  exact r _ _ _ (s_p0_latestFinding, s_p0_findingTimes) _ dX6_regular_68 h rfl
set_option maxHeartbeats 4000000 in
set_option maxRecDepth 100000 in
theorem c_X6_regular {l : Launch} {D : va_G} {T : Nat → ClassId} {o_p0 : Nat} {a_p0 : Nat → Nat} {o_S : Nat} {o_W : Nat} {a_W : Nat → Nat} {s_p0_sentSize : Int32} {s_p0_latestFinding : Int32} {s_p0_latestTries : Int32} {s_p0_latestAsked : Int64} {s_W_there : Int32} {s_W_kind : Int32} {s_W_tag : Int32} {s_W_size : Int32} {s_W_lineCount : Int32} {s_W_near : Nat → Int64} {s_W_through : Nat → Int64} {s_p0_findingTimes : Nat → Int32} {s_p0_worlds : Nat → Option Nat} {x_1 : Int32} {x_2 : Int32} {Q : Int32 → (Int32) → (Nat → Int32) → Prop} (h : w_X6_regular x_1 x_2 s_p0_latestFinding s_W_there s_W_size s_W_lineCount s_W_near s_W_through s_p0_findingTimes s_p0_worlds o_W Q) : vCi l D (vT T) yX6_regular wsX6_regular (vr 4 92) [.ref o_p0, .int x_1, .int x_2] (cl_X6_regular T o_p0 a_p0 o_S o_W a_W s_p0_sentSize s_p0_latestFinding s_p0_latestTries s_p0_latestAsked s_W_there s_W_kind s_W_tag s_W_size s_W_lineCount s_W_near s_W_through s_p0_findingTimes s_p0_worlds) (fun v (u : (Int32) × (Nat → Int32)) => Q v u.1 u.2) (fun (u : (Int32) × (Nat → Int32)) => (cl_X6_regular T o_p0 a_p0 o_S o_W a_W s_p0_sentSize u.1 s_p0_latestTries s_p0_latestAsked s_W_there s_W_kind s_W_tag s_W_size s_W_lineCount s_W_near s_W_through u.2 s_p0_worlds)) := by
  refine vC_i (cc := cX6_regular) (nL := 4) (by decide +kernel) rfl ⟨rfl, rfl⟩ (Nat.le_of_ble_eq_true rfl) rfl ?_
  intro E el eD X r
  unfold w_X6_regular at h
  refine v_iload_n X 1 dX6_regular_0 rfl rfl ?_
  refine v_callSi0 X (As := [.int x_1]) (rest := []) 1 (c_X6_isWorldNumber (l := vl E) (D := vD E) (T := T) (x_0 := x_1) h) gX6_regular_X6_isWorldNumber rfl rfl (by decide +kernel) ⟨Nat.zero_le _, Nat.zero_le _⟩ ⟨rfl, rfl, by decide, by decide⟩ (Nat.le_of_ble_eq_true rfl) rfl dX6_regular_1 (fun r_1 h => ?_)
  refine v_if_ne X (tgt := 9) dX6_regular_4 (by decide) (fun c_4 => ?_) (fun c_4 => ?_)
  · replace h := h.1 c_4
    refine v_aload_n X 0 dX6_regular_9 rfl rfl ?_
    refine v_get X 0 0 (F := TX6) (N := 13) iX6_regular_X6 rfl rfl (by decide) (List.mem_of_getElem? (i := 1) rfl) rfl rfl dX6_regular_10 ?_
    refine v_iload_n X 1 dX6_regular_13 rfl rfl ?_
    refine v_aald X 5 2 rfl rfl h.1 h.2.1 dX6_regular_14 ?_
    replace h := h.2.2
    refine v_astore_n X (lv' := [(3, .ref o_W), (0, .ref o_p0), (1, .int x_1), (2, .int x_2)]) dX6_regular_15 rfl (by decide) rfl ?_
    refine v_aload_n X 0 dX6_regular_16 rfl rfl ?_
    refine v_getN X 1 3 (F := TX5) (N := 8) iX6_regular_X5 rfl rfl (by decide) (List.mem_of_getElem? (i := 23) rfl) rfl rfl dX6_regular_17 ?_
    refine v_if_ne X (tgt := 29) dX6_regular_20 (by decide) (fun c_20 => ?_) (fun c_20 => ?_)
    · replace h := h.1 c_20
      refine v_aload_n X 0 dX6_regular_29 rfl rfl ?_
      refine v_iload_n X 3 dX6_regular_30 rfl rfl ?_
      refine v_callVi X (As := [.int x_2]) (rest := []) 1 0 (c_X5_hasPoint (l := vl E) (D := vD E) (T := T) (o_p0 := o_W) (a_p0 := a_W) (s_p0_there := s_W_there) (s_p0_kind := s_W_kind) (s_p0_tag := s_W_tag) (s_p0_size := s_W_size) (s_p0_lineCount := s_W_lineCount) (x_1 := x_2) h) gX6_regular_X5_hasPoint rfl rfl (by decide +kernel) ⟨Nat.zero_le _, Nat.zero_le _⟩ ⟨rfl, rfl, by decide, by decide⟩ (Nat.le_of_ble_eq_true rfl) rfl rfl (wr := [vO o_p0 3 [.ref (a_p0 0), .ref (a_p0 1), .ref (a_p0 2), .ref (a_p0 3), .ref (a_p0 4), .ref (a_p0 5), .ref (a_p0 6), .ref (a_p0 7), .ref o_S, .int s_p0_sentSize, .int s_p0_latestFinding, .int s_p0_latestTries, .long s_p0_latestAsked], vJ T (a_W 2) 45 s_W_near, vJ T (a_W 1) 45 s_W_through, vI T (a_p0 3) 6 s_p0_findingTimes, vR T 2 (a_p0 0) 6 s_p0_worlds]) [1] [0, 2, 3, 4, 5] rfl rfl rfl rfl (by decide) rfl dX6_regular_31 (fun r_31 u h => ?_)
      refine v_ws (ws' := (cl_X6_regular T o_p0 a_p0 o_S o_W a_W s_p0_sentSize s_p0_latestFinding s_p0_latestTries s_p0_latestAsked s_W_there s_W_kind s_W_tag s_W_size s_W_lineCount s_W_near s_W_through s_p0_findingTimes s_p0_worlds)) [0, 5, 1, 2, 3, 4] rfl rfl ?_
      refine v_if_ne X (tgt := 43) dX6_regular_34 (by decide) (fun c_34 => ?_) (fun c_34 => ?_)
      · replace h := h.1 c_34
        refine v_aload_n X 0 dX6_regular_43 rfl rfl ?_
        refine v_callVi X (As := []) (rest := []) 0 0 (c_X5_orderOfPoints (l := vl E) (D := vD E) (T := T) (o_p0 := o_W) (a_p0 := a_W) (s_p0_there := s_W_there) (s_p0_kind := s_W_kind) (s_p0_tag := s_W_tag) (s_p0_size := s_W_size) (s_p0_lineCount := s_W_lineCount) (s_p0_through := s_W_through) h) gX6_regular_X5_orderOfPoints rfl rfl (by decide +kernel) ⟨Nat.zero_le _, Nat.zero_le _⟩ ⟨rfl, rfl, by decide, by decide⟩ (Nat.le_of_ble_eq_true rfl) rfl rfl (wr := [vO o_p0 3 [.ref (a_p0 0), .ref (a_p0 1), .ref (a_p0 2), .ref (a_p0 3), .ref (a_p0 4), .ref (a_p0 5), .ref (a_p0 6), .ref (a_p0 7), .ref o_S, .int s_p0_sentSize, .int s_p0_latestFinding, .int s_p0_latestTries, .long s_p0_latestAsked], vJ T (a_W 2) 45 s_W_near, vI T (a_p0 3) 6 s_p0_findingTimes, vR T 2 (a_p0 0) 6 s_p0_worlds]) [1, 3] [0, 2, 4, 5] rfl rfl rfl rfl (by decide) rfl dX6_regular_44 (fun r_44 u h => ?_)
        refine v_ws (ws' := (cl_X6_regular T o_p0 a_p0 o_S o_W a_W s_p0_sentSize s_p0_latestFinding s_p0_latestTries s_p0_latestAsked s_W_there s_W_kind s_W_tag s_W_size s_W_lineCount s_W_near s_W_through s_p0_findingTimes s_p0_worlds)) [0, 4, 1, 5, 2, 3] rfl rfl ?_
        refine v_bipush X dX6_regular_47 (v := (-9 : Int32)) (by decide) ?_
        refine v_icmp_ne X (tgt := 55) dX6_regular_49 (by decide) (fun c_49 => ?_) (fun c_49 => ?_)
        · replace h := h.1 c_49
          refine v_aload_n X 0 dX6_regular_55 rfl rfl ?_
          refine v_iload_n X 3 dX6_regular_56 rfl rfl ?_
          refine v_callVi X (As := [.int x_2]) (rest := []) 1 0 (c_X5_isRegular (l := vl E) (D := vD E) (T := T) (o_p0 := o_W) (a_p0 := a_W) (s_p0_there := s_W_there) (s_p0_kind := s_W_kind) (s_p0_tag := s_W_tag) (s_p0_size := s_W_size) (s_p0_lineCount := s_W_lineCount) (s_p0_near := s_W_near) (s_p0_through := s_W_through) (x_1 := x_2) h) gX6_regular_X5_isRegular rfl rfl (by decide +kernel) ⟨Nat.zero_le _, Nat.zero_le _⟩ ⟨rfl, rfl, by decide, by decide⟩ (Nat.le_of_ble_eq_true rfl) rfl rfl (wr := [vO o_p0 3 [.ref (a_p0 0), .ref (a_p0 1), .ref (a_p0 2), .ref (a_p0 3), .ref (a_p0 4), .ref (a_p0 5), .ref (a_p0 6), .ref (a_p0 7), .ref o_S, .int s_p0_sentSize, .int s_p0_latestFinding, .int s_p0_latestTries, .long s_p0_latestAsked], vI T (a_p0 3) 6 s_p0_findingTimes, vR T 2 (a_p0 0) 6 s_p0_worlds]) [1, 2, 3] [0, 4, 5] rfl rfl rfl rfl (by decide) rfl dX6_regular_57 (fun r_57 u h => ?_)
          refine v_ws (ws' := (cl_X6_regular T o_p0 a_p0 o_S o_W a_W s_p0_sentSize s_p0_latestFinding s_p0_latestTries s_p0_latestAsked s_W_there s_W_kind s_W_tag s_W_size s_W_lineCount s_W_near s_W_through s_p0_findingTimes s_p0_worlds)) [0, 3, 4, 5, 1, 2] rfl rfl ?_
          refine v_if_eq X (tgt := 67) dX6_regular_60 (by decide) (fun c_60 => ?_) (fun c_60 => ?_)
          · replace h := h.1 c_60
            refine v_iconst X dX6_regular_67 (v := (0 : Int32)) (by decide) ?_
            refine v_lv (lv' := []) [] rfl ?_
            exact k_X6_regular_68 X r h
          · replace h := h.2 c_60
            refine v_iconst X dX6_regular_63 (v := (1 : Int32)) (by decide) ?_
            refine v_goto X (tgt := 68) dX6_regular_64 (by decide) ?_
            refine v_lv (lv' := []) [] rfl ?_
            exact k_X6_regular_68 X r h
        · replace h := h.2 c_49
          refine v_bipush X dX6_regular_52 (v := (-4 : Int32)) (by decide) ?_
          exact r _ _ _ (s_p0_latestFinding, s_p0_findingTimes) _ dX6_regular_54 h rfl
      · replace h := h.2 c_34
        refine v_aload_n X 1 dX6_regular_37 rfl rfl ?_
        refine v_iconst X dX6_regular_38 (v := (2 : Int32)) (by decide) ?_
        refine v_callVi X (As := [.int (2 : Int32)]) (rest := []) 1 0 (c_X6_refused (l := vl E) (D := vD E) (T := T) (o_p0 := o_p0) (a_p0 := a_p0) (o_S := o_S) (s_p0_sentSize := s_p0_sentSize) (s_p0_latestFinding := s_p0_latestFinding) (s_p0_latestTries := s_p0_latestTries) (s_p0_latestAsked := s_p0_latestAsked) (s_p0_findingTimes := s_p0_findingTimes) (x_1 := (2 : Int32)) h) gX6_regular_X6_refused rfl rfl (by decide +kernel) ⟨Nat.zero_le _, Nat.zero_le _⟩ ⟨rfl, rfl, by decide, by decide⟩ (Nat.le_of_ble_eq_true rfl) rfl rfl (wr := [vO o_W 2 [.ref (a_W 0), .ref (a_W 1), .ref (a_W 2), .int s_W_there, .int s_W_kind, .int s_W_tag, .int s_W_size, .int s_W_lineCount], vJ T (a_W 2) 45 s_W_near, vJ T (a_W 1) 45 s_W_through, vR T 2 (a_p0 0) 6 s_p0_worlds]) [0, 4] [1, 2, 3, 5] rfl rfl rfl rfl (by decide) rfl dX6_regular_39 (fun r_39 u h => ?_)
        obtain ⟨u_39_0, u_39_1⟩ := u
        dsimp only at h
        refine v_ws (ws' := (cl_X6_regular T o_p0 a_p0 o_S o_W a_W s_p0_sentSize u_39_0 s_p0_latestTries s_p0_latestAsked s_W_there s_W_kind s_W_tag s_W_size s_W_lineCount s_W_near s_W_through u_39_1 s_p0_worlds)) [4, 0, 1, 2, 5, 3] rfl rfl ?_
        exact r _ _ _ (u_39_0, u_39_1) _ dX6_regular_42 h rfl
    · replace h := h.2 c_20
      refine v_aload_n X 1 dX6_regular_23 rfl rfl ?_
      refine v_iconst X dX6_regular_24 (v := (1 : Int32)) (by decide) ?_
      refine v_callVi X (As := [.int (1 : Int32)]) (rest := []) 1 0 (c_X6_refused (l := vl E) (D := vD E) (T := T) (o_p0 := o_p0) (a_p0 := a_p0) (o_S := o_S) (s_p0_sentSize := s_p0_sentSize) (s_p0_latestFinding := s_p0_latestFinding) (s_p0_latestTries := s_p0_latestTries) (s_p0_latestAsked := s_p0_latestAsked) (s_p0_findingTimes := s_p0_findingTimes) (x_1 := (1 : Int32)) h) gX6_regular_X6_refused rfl rfl (by decide +kernel) ⟨Nat.zero_le _, Nat.zero_le _⟩ ⟨rfl, rfl, by decide, by decide⟩ (Nat.le_of_ble_eq_true rfl) rfl rfl (wr := [vO o_W 2 [.ref (a_W 0), .ref (a_W 1), .ref (a_W 2), .int s_W_there, .int s_W_kind, .int s_W_tag, .int s_W_size, .int s_W_lineCount], vJ T (a_W 2) 45 s_W_near, vJ T (a_W 1) 45 s_W_through, vR T 2 (a_p0 0) 6 s_p0_worlds]) [0, 4] [1, 2, 3, 5] rfl rfl rfl rfl (by decide) rfl dX6_regular_25 (fun r_25 u h => ?_)
      obtain ⟨u_25_0, u_25_1⟩ := u
      dsimp only at h
      refine v_ws (ws' := (cl_X6_regular T o_p0 a_p0 o_S o_W a_W s_p0_sentSize u_25_0 s_p0_latestTries s_p0_latestAsked s_W_there s_W_kind s_W_tag s_W_size s_W_lineCount s_W_near s_W_through u_25_1 s_p0_worlds)) [4, 0, 1, 2, 5, 3] rfl rfl ?_
      exact r _ _ _ (u_25_0, u_25_1) _ dX6_regular_28 h rfl
  · replace h := h.2 c_4
    refine v_iconst X dX6_regular_7 (v := (-1 : Int32)) (by decide) ?_
    exact r _ _ _ (s_p0_latestFinding, s_p0_findingTimes) _ dX6_regular_8 h rfl
-- X6_centres
abbrev cl_X6_centres (T : Nat → ClassId) (o_p0 : Nat) (a_p0 : Nat → Nat) (o_S : Nat) (o_W : Nat) (a_W : Nat → Nat) (s_p0_sentSize : Int32) (s_p0_latestFinding : Int32) (s_p0_latestTries : Int32) (s_p0_latestAsked : Int64) (s_W_there : Int32) (s_W_kind : Int32) (s_W_tag : Int32) (s_W_size : Int32) (s_W_lineCount : Int32) (s_W_near : Nat → Int64) (s_p0_findingTimes : Nat → Int32) (s_p0_worlds : Nat → Option Nat) : va_W := [vO o_p0 3 [.ref (a_p0 0), .ref (a_p0 1), .ref (a_p0 2), .ref (a_p0 3), .ref (a_p0 4), .ref (a_p0 5), .ref (a_p0 6), .ref (a_p0 7), .ref o_S, .int s_p0_sentSize, .int s_p0_latestFinding, .int s_p0_latestTries, .long s_p0_latestAsked], vO o_W 2 [.ref (a_W 0), .ref (a_W 1), .ref (a_W 2), .int s_W_there, .int s_W_kind, .int s_W_tag, .int s_W_size, .int s_W_lineCount], vJ T (a_W 2) 45 s_W_near, vI T (a_p0 3) 6 s_p0_findingTimes, vR T 2 (a_p0 0) 6 s_p0_worlds]
abbrev r_X6_centres (E : vE) (T : Nat → ClassId) (o_p0 : Nat) (a_p0 : Nat → Nat) (o_S : Nat) (o_W : Nat) (a_W : Nat → Nat) (s_p0_sentSize : Int32) (s_p0_latestTries : Int32) (s_p0_latestAsked : Int64) (s_W_there : Int32) (s_W_kind : Int32) (s_W_tag : Int32) (s_W_size : Int32) (s_W_lineCount : Int32) (s_W_near : Nat → Int64) (s_p0_worlds : Nat → Option Nat) (Q : Int32 → (Int32) → (Nat → Int32) → Prop) : Prop := vRi E cX6_centres (fun v (u : (Int32) × (Nat → Int32)) => Q v u.1 u.2) (fun (u : (Int32) × (Nat → Int32)) => (cl_X6_centres T o_p0 a_p0 o_S o_W a_W s_p0_sentSize u.1 s_p0_latestTries s_p0_latestAsked s_W_there s_W_kind s_W_tag s_W_size s_W_lineCount s_W_near u.2 s_p0_worlds))
def w_X6_centres_59 (s_p0_latestFinding : Int32) (s_W_there : Int32) (s_W_size : Int32) (s_W_near : Nat → Int64) (s_p0_findingTimes : Nat → Int32) (s_p0_worlds : Nat → Option Nat) (o_W : Nat) (Q : Int32 → (Int32) → (Nat → Int32) → Prop) : Prop := (w_X6_refused (2 : Int32) s_p0_latestFinding s_p0_findingTimes (fun (r_61 : Int32) (u_61_0 : Int32) (u_61_1 : Nat → Int32) => (Q r_61 u_61_0 u_61_1)))
def w_X6_centres (x_1 : Int32) (x_2 : Int32) (x_3 : Int32) (x_4 : Int32) (s_p0_latestFinding : Int32) (s_W_there : Int32) (s_W_size : Int32) (s_W_near : Nat → Int64) (s_p0_findingTimes : Nat → Int32) (s_p0_worlds : Nat → Option Nat) (o_W : Nat) (Q : Int32 → (Int32) → (Nat → Int32) → Prop) : Prop := (w_X6_isWorldNumber x_1 (fun (r_1 : Int32) => ((¬ r_1 = 0 → (vp_in x_1 6 ∧ s_p0_worlds (x_1).toNatClampNeg = some o_W ∧ ((¬ s_W_there = 0 → (w_X5_hasPoint x_2 s_W_size (fun (r_34 : Int32) => ((r_34 = 0 → (w_X6_centres_59 s_p0_latestFinding s_W_there s_W_size s_W_near s_p0_findingTimes s_p0_worlds o_W Q)) ∧ (¬ r_34 = 0 → (w_X5_hasPoint x_3 s_W_size (fun (r_43 : Int32) => ((r_43 = 0 → (w_X6_centres_59 s_p0_latestFinding s_W_there s_W_size s_W_near s_p0_findingTimes s_p0_worlds o_W Q)) ∧ (¬ r_43 = 0 → (w_X5_hasPoint x_4 s_W_size (fun (r_53 : Int32) => ((¬ r_53 = 0 → (vp_in x_2 45 ∧ (vp_in x_3 45 ∧ (vp_in x_4 45 ∧ (w_J13_bitCount_95d88 (((s_W_near (x_2).toNatClampNeg) &&& (s_W_near (x_3).toNatClampNeg)) &&& (s_W_near (x_4).toNatClampNeg)) (fun (r_89 : Int32) => (Q r_89 s_p0_latestFinding s_p0_findingTimes))))))) ∧ (r_53 = 0 → (w_X6_centres_59 s_p0_latestFinding s_W_there s_W_size s_W_near s_p0_findingTimes s_p0_worlds o_W Q)))))))))))))) ∧ (s_W_there = 0 → (w_X6_refused (1 : Int32) s_p0_latestFinding s_p0_findingTimes (fun (r_27 : Int32) (u_27_0 : Int32) (u_27_1 : Nat → Int32) => (Q r_27 u_27_0 u_27_1))))))) ∧ (r_1 = 0 → (Q (-1 : Int32) s_p0_latestFinding s_p0_findingTimes)))))
-- X6_centres
theorem iX6_centres_X5 : ∀ w ∈ wsX50, w ∈ wsX6_centres := by decide +kernel
theorem iX6_centres_X6 : ∀ w ∈ wsX60, w ∈ wsX6_centres := by decide +kernel
set_option maxHeartbeats 4000000 in
set_option maxRecDepth 100000 in
theorem k_X6_centres_59 {E : vE} {T : Nat → ClassId} {o_p0 : Nat} {a_p0 : Nat → Nat} {o_S : Nat} {o_W : Nat} {a_W : Nat → Nat} {s_p0_sentSize : Int32} {s_p0_latestFinding : Int32} {s_p0_latestTries : Int32} {s_p0_latestAsked : Int64} {s_W_there : Int32} {s_W_kind : Int32} {s_W_tag : Int32} {s_W_size : Int32} {s_W_lineCount : Int32} {s_W_near : Nat → Int64} {s_p0_findingTimes : Nat → Int32} {s_p0_worlds : Nat → Option Nat} {Q : Int32 → (Int32) → (Nat → Int32) → Prop} (X : vX E cX6_centres 6 RX6 wsX6_centres (vT T) (vr 1 21)) (r : r_X6_centres E T o_p0 a_p0 o_S o_W a_W s_p0_sentSize s_p0_latestTries s_p0_latestAsked s_W_there s_W_kind s_W_tag s_W_size s_W_lineCount s_W_near s_p0_worlds Q) (h : w_X6_centres_59 s_p0_latestFinding s_W_there s_W_size s_W_near s_p0_findingTimes s_p0_worlds o_W Q) : V E 0 0 59 [(0, .ref o_p0)] [] (cl_X6_centres T o_p0 a_p0 o_S o_W a_W s_p0_sentSize s_p0_latestFinding s_p0_latestTries s_p0_latestAsked s_W_there s_W_kind s_W_tag s_W_size s_W_lineCount s_W_near s_p0_findingTimes s_p0_worlds) := by
  unfold w_X6_centres_59 at h
  refine v_aload_n X 0 dX6_centres_59 rfl rfl ?_
  refine v_iconst X dX6_centres_60 (v := (2 : Int32)) (by decide) ?_
  refine v_callVi X (As := [.int (2 : Int32)]) (rest := []) 1 0 (c_X6_refused (l := vl E) (D := vD E) (T := T) (o_p0 := o_p0) (a_p0 := a_p0) (o_S := o_S) (s_p0_sentSize := s_p0_sentSize) (s_p0_latestFinding := s_p0_latestFinding) (s_p0_latestTries := s_p0_latestTries) (s_p0_latestAsked := s_p0_latestAsked) (s_p0_findingTimes := s_p0_findingTimes) (x_1 := (2 : Int32)) h) gX6_centres_X6_refused rfl rfl (by decide +kernel) ⟨Nat.zero_le _, Nat.zero_le _⟩ ⟨rfl, rfl, by decide, by decide⟩ (Nat.le_of_ble_eq_true rfl) rfl rfl (wr := [vO o_W 2 [.ref (a_W 0), .ref (a_W 1), .ref (a_W 2), .int s_W_there, .int s_W_kind, .int s_W_tag, .int s_W_size, .int s_W_lineCount], vJ T (a_W 2) 45 s_W_near, vR T 2 (a_p0 0) 6 s_p0_worlds]) [0, 3] [1, 2, 4] rfl rfl rfl rfl (by decide) rfl dX6_centres_61 (fun r_61 u h => ?_)
  obtain ⟨u_61_0, u_61_1⟩ := u
  dsimp only at h
  refine v_ws (ws' := (cl_X6_centres T o_p0 a_p0 o_S o_W a_W s_p0_sentSize u_61_0 s_p0_latestTries s_p0_latestAsked s_W_there s_W_kind s_W_tag s_W_size s_W_lineCount s_W_near u_61_1 s_p0_worlds)) [3, 0, 1, 4, 2] rfl rfl ?_
  exact r _ _ _ (u_61_0, u_61_1) _ dX6_centres_64 h rfl
set_option maxHeartbeats 4000000 in
set_option maxRecDepth 100000 in
theorem c_X6_centres {l : Launch} {D : va_G} {T : Nat → ClassId} {o_p0 : Nat} {a_p0 : Nat → Nat} {o_S : Nat} {o_W : Nat} {a_W : Nat → Nat} {s_p0_sentSize : Int32} {s_p0_latestFinding : Int32} {s_p0_latestTries : Int32} {s_p0_latestAsked : Int64} {s_W_there : Int32} {s_W_kind : Int32} {s_W_tag : Int32} {s_W_size : Int32} {s_W_lineCount : Int32} {s_W_near : Nat → Int64} {s_p0_findingTimes : Nat → Int32} {s_p0_worlds : Nat → Option Nat} {x_1 : Int32} {x_2 : Int32} {x_3 : Int32} {x_4 : Int32} {Q : Int32 → (Int32) → (Nat → Int32) → Prop} (h : w_X6_centres x_1 x_2 x_3 x_4 s_p0_latestFinding s_W_there s_W_size s_W_near s_p0_findingTimes s_p0_worlds o_W Q) : vCi l D (vT T) yX6_centres wsX6_centres (vr 1 21) [.ref o_p0, .int x_1, .int x_2, .int x_3, .int x_4] (cl_X6_centres T o_p0 a_p0 o_S o_W a_W s_p0_sentSize s_p0_latestFinding s_p0_latestTries s_p0_latestAsked s_W_there s_W_kind s_W_tag s_W_size s_W_lineCount s_W_near s_p0_findingTimes s_p0_worlds) (fun v (u : (Int32) × (Nat → Int32)) => Q v u.1 u.2) (fun (u : (Int32) × (Nat → Int32)) => (cl_X6_centres T o_p0 a_p0 o_S o_W a_W s_p0_sentSize u.1 s_p0_latestTries s_p0_latestAsked s_W_there s_W_kind s_W_tag s_W_size s_W_lineCount s_W_near u.2 s_p0_worlds)) := by
  refine vC_i (cc := cX6_centres) (nL := 6) (by decide +kernel) rfl ⟨rfl, rfl⟩ (Nat.le_of_ble_eq_true rfl) rfl ?_
  intro E el eD X r
  unfold w_X6_centres at h
  refine v_iload_n X 1 dX6_centres_0 rfl rfl ?_
  refine v_callSi0 X (As := [.int x_1]) (rest := []) 1 (c_X6_isWorldNumber (l := vl E) (D := vD E) (T := T) (x_0 := x_1) h) gX6_centres_X6_isWorldNumber rfl rfl (by decide +kernel) ⟨Nat.zero_le _, Nat.zero_le _⟩ ⟨rfl, rfl, by decide, by decide⟩ (Nat.le_of_ble_eq_true rfl) rfl dX6_centres_1 (fun r_1 h => ?_)
  refine v_if_ne X (tgt := 9) dX6_centres_4 (by decide) (fun c_4 => ?_) (fun c_4 => ?_)
  · replace h := h.1 c_4
    refine v_aload_n X 0 dX6_centres_9 rfl rfl ?_
    refine v_get X 0 0 (F := TX6) (N := 13) iX6_centres_X6 rfl rfl (by decide) (List.mem_of_getElem? (i := 1) rfl) rfl rfl dX6_centres_10 ?_
    refine v_iload_n X 1 dX6_centres_13 rfl rfl ?_
    refine v_aald X 4 2 rfl rfl h.1 h.2.1 dX6_centres_14 ?_
    replace h := h.2.2
    refine v_astore X (lv' := [(5, .ref o_W), (0, .ref o_p0), (1, .int x_1), (2, .int x_2), (3, .int x_3), (4, .int x_4)]) dX6_centres_15 (by decide) rfl ?_
    refine v_aload X 0 dX6_centres_17 rfl ?_
    refine v_getN X 1 3 (F := TX5) (N := 8) iX6_centres_X5 rfl rfl (by decide) (List.mem_of_getElem? (i := 23) rfl) rfl rfl dX6_centres_19 ?_
    refine v_if_ne X (tgt := 31) dX6_centres_22 (by decide) (fun c_22 => ?_) (fun c_22 => ?_)
    · replace h := h.1 c_22
      refine v_aload X 0 dX6_centres_31 rfl ?_
      refine v_iload_n X 3 dX6_centres_33 rfl rfl ?_
      refine v_callVi X (As := [.int x_2]) (rest := []) 1 0 (c_X5_hasPoint (l := vl E) (D := vD E) (T := T) (o_p0 := o_W) (a_p0 := a_W) (s_p0_there := s_W_there) (s_p0_kind := s_W_kind) (s_p0_tag := s_W_tag) (s_p0_size := s_W_size) (s_p0_lineCount := s_W_lineCount) (x_1 := x_2) h) gX6_centres_X5_hasPoint rfl rfl (by decide +kernel) ⟨Nat.zero_le _, Nat.zero_le _⟩ ⟨rfl, rfl, by decide, by decide⟩ (Nat.le_of_ble_eq_true rfl) rfl rfl (wr := [vO o_p0 3 [.ref (a_p0 0), .ref (a_p0 1), .ref (a_p0 2), .ref (a_p0 3), .ref (a_p0 4), .ref (a_p0 5), .ref (a_p0 6), .ref (a_p0 7), .ref o_S, .int s_p0_sentSize, .int s_p0_latestFinding, .int s_p0_latestTries, .long s_p0_latestAsked], vJ T (a_W 2) 45 s_W_near, vI T (a_p0 3) 6 s_p0_findingTimes, vR T 2 (a_p0 0) 6 s_p0_worlds]) [1] [0, 2, 3, 4] rfl rfl rfl rfl (by decide) rfl dX6_centres_34 (fun r_34 u h => ?_)
      refine v_ws (ws' := (cl_X6_centres T o_p0 a_p0 o_S o_W a_W s_p0_sentSize s_p0_latestFinding s_p0_latestTries s_p0_latestAsked s_W_there s_W_kind s_W_tag s_W_size s_W_lineCount s_W_near s_p0_findingTimes s_p0_worlds)) [0, 4, 1, 2, 3] rfl rfl ?_
      refine v_if_eq X (tgt := 59) dX6_centres_37 (by decide) (fun c_37 => ?_) (fun c_37 => ?_)
      · replace h := h.1 c_37
        refine v_lv (lv' := [(0, .ref o_p0)]) [1] rfl ?_
        exact k_X6_centres_59 X r h
      · replace h := h.2 c_37
        refine v_aload X 0 dX6_centres_40 rfl ?_
        refine v_iload_n X 4 dX6_centres_42 rfl rfl ?_
        refine v_callVi X (As := [.int x_3]) (rest := []) 1 0 (c_X5_hasPoint (l := vl E) (D := vD E) (T := T) (o_p0 := o_W) (a_p0 := a_W) (s_p0_there := s_W_there) (s_p0_kind := s_W_kind) (s_p0_tag := s_W_tag) (s_p0_size := s_W_size) (s_p0_lineCount := s_W_lineCount) (x_1 := x_3) h) gX6_centres_X5_hasPoint rfl rfl (by decide +kernel) ⟨Nat.zero_le _, Nat.zero_le _⟩ ⟨rfl, rfl, by decide, by decide⟩ (Nat.le_of_ble_eq_true rfl) rfl rfl (wr := [vO o_p0 3 [.ref (a_p0 0), .ref (a_p0 1), .ref (a_p0 2), .ref (a_p0 3), .ref (a_p0 4), .ref (a_p0 5), .ref (a_p0 6), .ref (a_p0 7), .ref o_S, .int s_p0_sentSize, .int s_p0_latestFinding, .int s_p0_latestTries, .long s_p0_latestAsked], vJ T (a_W 2) 45 s_W_near, vI T (a_p0 3) 6 s_p0_findingTimes, vR T 2 (a_p0 0) 6 s_p0_worlds]) [1] [0, 2, 3, 4] rfl rfl rfl rfl (by decide) rfl dX6_centres_43 (fun r_43 u h => ?_)
        refine v_ws (ws' := (cl_X6_centres T o_p0 a_p0 o_S o_W a_W s_p0_sentSize s_p0_latestFinding s_p0_latestTries s_p0_latestAsked s_W_there s_W_kind s_W_tag s_W_size s_W_lineCount s_W_near s_p0_findingTimes s_p0_worlds)) [0, 4, 1, 2, 3] rfl rfl ?_
        refine v_if_eq X (tgt := 59) dX6_centres_46 (by decide) (fun c_46 => ?_) (fun c_46 => ?_)
        · replace h := h.1 c_46
          refine v_lv (lv' := [(0, .ref o_p0)]) [1] rfl ?_
          exact k_X6_centres_59 X r h
        · replace h := h.2 c_46
          refine v_aload X 0 dX6_centres_49 rfl ?_
          refine v_iload X 5 dX6_centres_51 rfl ?_
          refine v_callVi X (As := [.int x_4]) (rest := []) 1 0 (c_X5_hasPoint (l := vl E) (D := vD E) (T := T) (o_p0 := o_W) (a_p0 := a_W) (s_p0_there := s_W_there) (s_p0_kind := s_W_kind) (s_p0_tag := s_W_tag) (s_p0_size := s_W_size) (s_p0_lineCount := s_W_lineCount) (x_1 := x_4) h) gX6_centres_X5_hasPoint rfl rfl (by decide +kernel) ⟨Nat.zero_le _, Nat.zero_le _⟩ ⟨rfl, rfl, by decide, by decide⟩ (Nat.le_of_ble_eq_true rfl) rfl rfl (wr := [vO o_p0 3 [.ref (a_p0 0), .ref (a_p0 1), .ref (a_p0 2), .ref (a_p0 3), .ref (a_p0 4), .ref (a_p0 5), .ref (a_p0 6), .ref (a_p0 7), .ref o_S, .int s_p0_sentSize, .int s_p0_latestFinding, .int s_p0_latestTries, .long s_p0_latestAsked], vJ T (a_W 2) 45 s_W_near, vI T (a_p0 3) 6 s_p0_findingTimes, vR T 2 (a_p0 0) 6 s_p0_worlds]) [1] [0, 2, 3, 4] rfl rfl rfl rfl (by decide) rfl dX6_centres_53 (fun r_53 u h => ?_)
          refine v_ws (ws' := (cl_X6_centres T o_p0 a_p0 o_S o_W a_W s_p0_sentSize s_p0_latestFinding s_p0_latestTries s_p0_latestAsked s_W_there s_W_kind s_W_tag s_W_size s_W_lineCount s_W_near s_p0_findingTimes s_p0_worlds)) [0, 4, 1, 2, 3] rfl rfl ?_
          refine v_if_ne X (tgt := 65) dX6_centres_56 (by decide) (fun c_56 => ?_) (fun c_56 => ?_)
          · replace h := h.1 c_56
            refine v_aload X 0 dX6_centres_65 rfl ?_
            refine v_getN X 1 2 (F := TX5) (N := 8) iX6_centres_X5 rfl rfl (by decide) (List.mem_of_getElem? (i := 22) rfl) rfl rfl dX6_centres_67 ?_
            refine v_iload_n X 3 dX6_centres_70 rfl rfl ?_
            refine v_lald X 2 1 rfl rfl h.1 dX6_centres_71 ?_
            replace h := h.2
            refine v_aload X 0 dX6_centres_72 rfl ?_
            refine v_getN X 1 2 (F := TX5) (N := 8) iX6_centres_X5 rfl rfl (by decide) (List.mem_of_getElem? (i := 22) rfl) rfl rfl dX6_centres_74 ?_
            refine v_iload_n X 4 dX6_centres_77 rfl rfl ?_
            refine v_lald X 2 1 rfl rfl h.1 dX6_centres_78 ?_
            replace h := h.2
            refine v_land X dX6_centres_79 ?_
            refine v_aload X 0 dX6_centres_80 rfl ?_
            refine v_getN X 1 2 (F := TX5) (N := 8) iX6_centres_X5 rfl rfl (by decide) (List.mem_of_getElem? (i := 22) rfl) rfl rfl dX6_centres_82 ?_
            refine v_iload X 5 dX6_centres_85 rfl ?_
            refine v_lald X 2 1 rfl rfl h.1 dX6_centres_87 ?_
            replace h := h.2
            refine v_land X dX6_centres_88 ?_
            refine v_callSi0 X (As := [.long (((s_W_near (x_2).toNatClampNeg) &&& (s_W_near (x_3).toNatClampNeg)) &&& (s_W_near (x_4).toNatClampNeg))]) (rest := []) 1 (c_J13_bitCount_95d88 (l := vl E) (D := vD E) (T := T) (x_0 := (((s_W_near (x_2).toNatClampNeg) &&& (s_W_near (x_3).toNatClampNeg)) &&& (s_W_near (x_4).toNatClampNeg))) h) gX6_centres_J13_bitCount_95d88 rfl rfl (by decide +kernel) ⟨Nat.zero_le _, Nat.zero_le _⟩ ⟨rfl, rfl, by decide, by decide⟩ (Nat.le_of_ble_eq_true rfl) rfl dX6_centres_89 (fun r_89 h => ?_)
            exact r _ _ _ (s_p0_latestFinding, s_p0_findingTimes) _ dX6_centres_92 h rfl
          · replace h := h.2 c_56
            refine v_lv (lv' := [(0, .ref o_p0)]) [1] rfl ?_
            exact k_X6_centres_59 X r h
    · replace h := h.2 c_22
      refine v_aload_n X 1 dX6_centres_25 rfl rfl ?_
      refine v_iconst X dX6_centres_26 (v := (1 : Int32)) (by decide) ?_
      refine v_callVi X (As := [.int (1 : Int32)]) (rest := []) 1 0 (c_X6_refused (l := vl E) (D := vD E) (T := T) (o_p0 := o_p0) (a_p0 := a_p0) (o_S := o_S) (s_p0_sentSize := s_p0_sentSize) (s_p0_latestFinding := s_p0_latestFinding) (s_p0_latestTries := s_p0_latestTries) (s_p0_latestAsked := s_p0_latestAsked) (s_p0_findingTimes := s_p0_findingTimes) (x_1 := (1 : Int32)) h) gX6_centres_X6_refused rfl rfl (by decide +kernel) ⟨Nat.zero_le _, Nat.zero_le _⟩ ⟨rfl, rfl, by decide, by decide⟩ (Nat.le_of_ble_eq_true rfl) rfl rfl (wr := [vO o_W 2 [.ref (a_W 0), .ref (a_W 1), .ref (a_W 2), .int s_W_there, .int s_W_kind, .int s_W_tag, .int s_W_size, .int s_W_lineCount], vJ T (a_W 2) 45 s_W_near, vR T 2 (a_p0 0) 6 s_p0_worlds]) [0, 3] [1, 2, 4] rfl rfl rfl rfl (by decide) rfl dX6_centres_27 (fun r_27 u h => ?_)
      obtain ⟨u_27_0, u_27_1⟩ := u
      dsimp only at h
      refine v_ws (ws' := (cl_X6_centres T o_p0 a_p0 o_S o_W a_W s_p0_sentSize u_27_0 s_p0_latestTries s_p0_latestAsked s_W_there s_W_kind s_W_tag s_W_size s_W_lineCount s_W_near u_27_1 s_p0_worlds)) [3, 0, 1, 4, 2] rfl rfl ?_
      exact r _ _ _ (u_27_0, u_27_1) _ dX6_centres_30 h rfl
  · replace h := h.2 c_4
    refine v_iconst X dX6_centres_7 (v := (-1 : Int32)) (by decide) ?_
    exact r _ _ _ (s_p0_latestFinding, s_p0_findingTimes) _ dX6_centres_8 h rfl