-- X7_points
abbrev cl_X7_points (T : Nat → ClassId) (o_p0 : Nat) (a_p0 : Nat → Nat) (s_p0_finding : Int32) (s_p0_asked : Int64) (s_p0_newPoints : Int32) (s_p0_newLines : Int32) (s_p0_faultAt : Int64) (s_p0_tries : Int32) (s_p0_things : Int32) (s_p0_goals : Int32) (s_p0_level : Int32) (s_p0_findings : Nat → Int32) (s_p0_lineCount : Nat → Int32) (s_p0_lines : Nat → Int64) (s_p0_points : Nat → Int32) : va_W := [vO o_p0 4 [.int s_p0_finding, .ref (a_p0 1), .long s_p0_asked, .ref (a_p0 3), .ref (a_p0 4), .ref (a_p0 5), .ref (a_p0 6), .ref (a_p0 7), .int s_p0_newPoints, .int s_p0_newLines, .ref (a_p0 10), .ref (a_p0 11), .long s_p0_faultAt, .int s_p0_tries, .int s_p0_things, .int s_p0_goals, .ref (a_p0 16), .ref (a_p0 17), .ref (a_p0 18), .ref (a_p0 19), .ref (a_p0 20), .ref (a_p0 21), .int s_p0_level, .ref (a_p0 23), .ref (a_p0 24), .ref (a_p0 25), .ref (a_p0 26), .ref (a_p0 27), .ref (a_p0 28), .ref (a_p0 29), .ref (a_p0 30), .ref (a_p0 31), .ref (a_p0 32)], vI T (a_p0 1) 6 s_p0_findings, vI T (a_p0 4) 6 s_p0_lineCount, vJ T (a_p0 7) 270 s_p0_lines, vI T (a_p0 3) 6 s_p0_points]
abbrev r_X7_points (E : vE) (T : Nat → ClassId) (o_p0 : Nat) (a_p0 : Nat → Nat) (s_p0_newPoints : Int32) (s_p0_newLines : Int32) (s_p0_faultAt : Int64) (s_p0_tries : Int32) (s_p0_things : Int32) (s_p0_goals : Int32) (s_p0_level : Int32) (s_p0_lineCount : Nat → Int32) (s_p0_lines : Nat → Int64) (s_p0_points : Nat → Int32) (Q : Int32 → (Int32) → (Int64) → (Nat → Int32) → Prop) : Prop := vRi E cX7_points (fun v (u : (Int32) × (Int64) × (Nat → Int32)) => Q v u.1 u.2.1 u.2.2) (fun (u : (Int32) × (Int64) × (Nat → Int32)) => (cl_X7_points T o_p0 a_p0 u.1 u.2.1 s_p0_newPoints s_p0_newLines s_p0_faultAt s_p0_tries s_p0_things s_p0_goals s_p0_level u.2.2 s_p0_lineCount s_p0_lines s_p0_points))
def w_X7_points_65 (t_0 : Int32) (s_p0_finding : Int32) (s_p0_asked : Int64) (s_p0_findings : Nat → Int32) (s_p0_lineCount : Nat → Int32) (s_p0_lines : Nat → Int64) (s_p0_points : Nat → Int32) (Q : Int32 → (Int32) → (Int64) → (Nat → Int32) → Prop) : Prop := (Q t_0 s_p0_finding s_p0_asked s_p0_findings)
def w_X7_points (x_1 : Int32) (x_2 : Int32) (s_p0_finding : Int32) (s_p0_asked : Int64) (s_p0_findings : Nat → Int32) (s_p0_lineCount : Nat → Int32) (s_p0_lines : Nat → Int64) (s_p0_points : Nat → Int32) (Q : Int32 → (Int32) → (Int64) → (Nat → Int32) → Prop) : Prop := (w_X7_looked x_1 s_p0_finding s_p0_findings s_p0_points (fun (r_2 : Int32) (u_2_0 : Int32) (u_2_1 : Nat → Int32) => ((0 ≤ r_2 → (vp_in x_1 6 ∧ (w_X7_in x_2 (0 : Int32) ((s_p0_lineCount (x_1).toNatClampNeg) - (1 : Int32)) (fun (r_22 : Int32) => ((r_22 = 0 → (w_X7_meets (2 : Int32) u_2_0 u_2_1 (fun (r_62 : Int32) (u_62_0 : Int32) (u_62_1 : Nat → Int32) => (w_X7_points_65 r_62 u_62_0 s_p0_asked u_62_1 s_p0_lineCount s_p0_lines s_p0_points Q)))) ∧ (¬ r_22 = 0 → (vp_in (((45 : Int32) * x_1) + x_2) 270 ∧ (vp_in (((45 : Int32) * x_1) + x_2) 270 ∧ (w_X7_bits (s_p0_lines ((((45 : Int32) * x_1) + x_2)).toNatClampNeg) (fun (r_51 : Int32) => (w_X7_ask (s_p0_lines ((((45 : Int32) * x_1) + x_2)).toNatClampNeg) r_51 s_p0_asked (fun (r_54 : Int32) (u_54_0 : Int64) => (w_X7_points_65 r_54 u_2_0 u_54_0 u_2_1 s_p0_lineCount s_p0_lines s_p0_points Q))))))))))))) ∧ (¬ 0 ≤ r_2 → (Q r_2 u_2_0 s_p0_asked u_2_1)))))
-- X7_points
theorem iX7_points_X7 : ∀ w ∈ wsX70, w ∈ wsX7_points := by decide +kernel
set_option maxHeartbeats 4000000 in
set_option maxRecDepth 100000 in
theorem k_X7_points_65 {E : vE} {T : Nat → ClassId} {o_p0 : Nat} {a_p0 : Nat → Nat} {s_p0_finding : Int32} {s_p0_asked : Int64} {s_p0_newPoints : Int32} {s_p0_newLines : Int32} {s_p0_faultAt : Int64} {s_p0_tries : Int32} {s_p0_things : Int32} {s_p0_goals : Int32} {s_p0_level : Int32} {s_p0_findings : Nat → Int32} {s_p0_lineCount : Nat → Int32} {s_p0_lines : Nat → Int64} {s_p0_points : Nat → Int32} {t_0 : Int32} {Q : Int32 → (Int32) → (Int64) → (Nat → Int32) → Prop} (X : vX E cX7_points 4 RX7 wsX7_points (vT T) (vr 3 63)) (r : r_X7_points E T o_p0 a_p0 s_p0_newPoints s_p0_newLines s_p0_faultAt s_p0_tries s_p0_things s_p0_goals s_p0_level s_p0_lineCount s_p0_lines s_p0_points Q) (h : w_X7_points_65 t_0 s_p0_finding s_p0_asked s_p0_findings s_p0_lineCount s_p0_lines s_p0_points Q) : V E 0 0 65 [] [.int t_0] (cl_X7_points T o_p0 a_p0 s_p0_finding s_p0_asked s_p0_newPoints s_p0_newLines s_p0_faultAt s_p0_tries s_p0_things s_p0_goals s_p0_level s_p0_findings s_p0_lineCount s_p0_lines s_p0_points) := by
  unfold w_X7_points_65 at h
  exact r _ _ _ (s_p0_finding, s_p0_asked, s_p0_findings) _ dX7_points_65 h rfl
set_option maxHeartbeats 4000000 in
set_option maxRecDepth 100000 in
theorem c_X7_points {l : Launch} {D : va_G} {T : Nat → ClassId} {o_p0 : Nat} {a_p0 : Nat → Nat} {s_p0_finding : Int32} {s_p0_asked : Int64} {s_p0_newPoints : Int32} {s_p0_newLines : Int32} {s_p0_faultAt : Int64} {s_p0_tries : Int32} {s_p0_things : Int32} {s_p0_goals : Int32} {s_p0_level : Int32} {s_p0_findings : Nat → Int32} {s_p0_lineCount : Nat → Int32} {s_p0_lines : Nat → Int64} {s_p0_points : Nat → Int32} {x_1 : Int32} {x_2 : Int32} {Q : Int32 → (Int32) → (Int64) → (Nat → Int32) → Prop} (h : w_X7_points x_1 x_2 s_p0_finding s_p0_asked s_p0_findings s_p0_lineCount s_p0_lines s_p0_points Q) : vCi l D (vT T) yX7_points wsX7_points (vr 3 63) [.ref o_p0, .int x_1, .int x_2] (cl_X7_points T o_p0 a_p0 s_p0_finding s_p0_asked s_p0_newPoints s_p0_newLines s_p0_faultAt s_p0_tries s_p0_things s_p0_goals s_p0_level s_p0_findings s_p0_lineCount s_p0_lines s_p0_points) (fun v (u : (Int32) × (Int64) × (Nat → Int32)) => Q v u.1 u.2.1 u.2.2) (fun (u : (Int32) × (Int64) × (Nat → Int32)) => (cl_X7_points T o_p0 a_p0 u.1 u.2.1 s_p0_newPoints s_p0_newLines s_p0_faultAt s_p0_tries s_p0_things s_p0_goals s_p0_level u.2.2 s_p0_lineCount s_p0_lines s_p0_points)) := by
  refine vC_i (cc := cX7_points) (nL := 4) (by decide +kernel) rfl ⟨rfl, rfl⟩ (Nat.le_of_ble_eq_true rfl) rfl ?_
  intro E el eD X r
  unfold w_X7_points at h
  refine v_aload_n X 0 dX7_points_0 rfl rfl ?_
  refine v_iload_n X 1 dX7_points_1 rfl rfl ?_
  refine v_callVi X (As := [.int x_1]) (rest := []) 1 0 (c_X7_looked (l := vl E) (D := vD E) (T := T) (o_p0 := o_p0) (a_p0 := a_p0) (s_p0_finding := s_p0_finding) (s_p0_asked := s_p0_asked) (s_p0_newPoints := s_p0_newPoints) (s_p0_newLines := s_p0_newLines) (s_p0_faultAt := s_p0_faultAt) (s_p0_tries := s_p0_tries) (s_p0_things := s_p0_things) (s_p0_goals := s_p0_goals) (s_p0_level := s_p0_level) (s_p0_findings := s_p0_findings) (s_p0_points := s_p0_points) (x_1 := x_1) h) gX7_points_X7_looked rfl rfl (by decide +kernel) ⟨Nat.zero_le _, Nat.zero_le _⟩ ⟨rfl, rfl, by decide, by decide⟩ (Nat.le_of_ble_eq_true rfl) rfl rfl (wr := [vI T (a_p0 4) 6 s_p0_lineCount, vJ T (a_p0 7) 270 s_p0_lines]) [0, 1, 4] [2, 3] rfl rfl rfl rfl (by decide) rfl dX7_points_2 (fun r_2 u h => ?_)
  obtain ⟨u_2_0, u_2_1⟩ := u
  dsimp only at h
  refine v_ws (ws' := (cl_X7_points T o_p0 a_p0 u_2_0 s_p0_asked s_p0_newPoints s_p0_newLines s_p0_faultAt s_p0_tries s_p0_things s_p0_goals s_p0_level u_2_1 s_p0_lineCount s_p0_lines s_p0_points)) [2, 3, 0, 1, 4] rfl rfl ?_
  refine v_istore_n X (lv' := [(3, .int r_2), (0, .ref o_p0), (1, .int x_1), (2, .int x_2)]) dX7_points_5 rfl (by decide) rfl ?_
  refine v_iload_n X 0 dX7_points_6 rfl rfl ?_
  refine v_if_ge X (tgt := 12) dX7_points_7 (by decide) (fun c_7 => ?_) (fun c_7 => ?_)
  · replace h := h.1 c_7
    refine v_iload_n X 3 dX7_points_12 rfl rfl ?_
    refine v_iconst X dX7_points_13 (v := (0 : Int32)) (by decide) ?_
    refine v_aload_n X 1 dX7_points_14 rfl rfl ?_
    refine v_get X 0 4 (F := TX7) (N := 33) iX7_points_X7 rfl rfl (by decide) (List.mem_of_getElem? (i := 1) rfl) rfl rfl dX7_points_15 ?_
    refine v_iload_n X 2 dX7_points_18 rfl rfl ?_
    refine v_iald X 2 0 rfl rfl h.1 dX7_points_19 ?_
    replace h := h.2
    refine v_iconst X dX7_points_20 (v := (1 : Int32)) (by decide) ?_
    refine v_isub X dX7_points_21 ?_
    refine v_callSi0 X (As := [.int x_2, .int (0 : Int32), .int ((s_p0_lineCount (x_1).toNatClampNeg) - (1 : Int32))]) (rest := []) 3 (c_X7_in (l := vl E) (D := vD E) (T := T) (x_0 := x_2) (x_1 := (0 : Int32)) (x_2 := ((s_p0_lineCount (x_1).toNatClampNeg) - (1 : Int32))) h) gX7_points_X7_in rfl rfl (by decide +kernel) ⟨Nat.zero_le _, Nat.zero_le _⟩ ⟨rfl, rfl, by decide, by decide⟩ (Nat.le_of_ble_eq_true rfl) rfl dX7_points_22 (fun r_22 h => ?_)
    refine v_if_eq X (tgt := 60) dX7_points_25 (by decide) (fun c_25 => ?_) (fun c_25 => ?_)
    · replace h := h.1 c_25
      refine v_aload_n X 1 dX7_points_60 rfl rfl ?_
      refine v_iconst X dX7_points_61 (v := (2 : Int32)) (by decide) ?_
      refine v_callVi X (As := [.int (2 : Int32)]) (rest := []) 1 0 (c_X7_meets (l := vl E) (D := vD E) (T := T) (o_p0 := o_p0) (a_p0 := a_p0) (s_p0_finding := u_2_0) (s_p0_asked := s_p0_asked) (s_p0_newPoints := s_p0_newPoints) (s_p0_newLines := s_p0_newLines) (s_p0_faultAt := s_p0_faultAt) (s_p0_tries := s_p0_tries) (s_p0_things := s_p0_things) (s_p0_goals := s_p0_goals) (s_p0_level := s_p0_level) (s_p0_findings := u_2_1) (x_1 := (2 : Int32)) h) gX7_points_X7_meets rfl rfl (by decide +kernel) ⟨Nat.zero_le _, Nat.zero_le _⟩ ⟨rfl, rfl, by decide, by decide⟩ (Nat.le_of_ble_eq_true rfl) rfl rfl (wr := [vI T (a_p0 4) 6 s_p0_lineCount, vJ T (a_p0 7) 270 s_p0_lines, vI T (a_p0 3) 6 s_p0_points]) [0, 1] [2, 3, 4] rfl rfl rfl rfl (by decide) rfl dX7_points_62 (fun r_62 u h => ?_)
      obtain ⟨u_62_0, u_62_1⟩ := u
      dsimp only at h
      refine v_ws (ws' := (cl_X7_points T o_p0 a_p0 u_62_0 s_p0_asked s_p0_newPoints s_p0_newLines s_p0_faultAt s_p0_tries s_p0_things s_p0_goals s_p0_level u_62_1 s_p0_lineCount s_p0_lines s_p0_points)) [3, 4, 0, 1, 2] rfl rfl ?_
      refine v_lv (lv' := []) [] rfl ?_
      exact k_X7_points_65 X r h
    · replace h := h.2 c_25
      refine v_aload_n X 1 dX7_points_28 rfl rfl ?_
      refine v_aload_n X 1 dX7_points_29 rfl rfl ?_
      refine v_get X 0 7 (F := TX7) (N := 33) iX7_points_X7 rfl rfl (by decide) (List.mem_of_getElem? (i := 2) rfl) rfl rfl dX7_points_30 ?_
      refine v_bipush X dX7_points_33 (v := (45 : Int32)) (by decide) ?_
      refine v_iload_n X 2 dX7_points_35 rfl rfl ?_
      refine v_imul X dX7_points_36 ?_
      refine v_iload_n X 3 dX7_points_37 rfl rfl ?_
      refine v_iadd X dX7_points_38 ?_
      refine v_lald X 3 1 rfl rfl h.1 dX7_points_39 ?_
      replace h := h.2
      refine v_aload_n X 1 dX7_points_40 rfl rfl ?_
      refine v_get X 0 7 (F := TX7) (N := 33) iX7_points_X7 rfl rfl (by decide) (List.mem_of_getElem? (i := 2) rfl) rfl rfl dX7_points_41 ?_
      refine v_bipush X dX7_points_44 (v := (45 : Int32)) (by decide) ?_
      refine v_iload_n X 2 dX7_points_46 rfl rfl ?_
      refine v_imul X dX7_points_47 ?_
      refine v_iload_n X 3 dX7_points_48 rfl rfl ?_
      refine v_iadd X dX7_points_49 ?_
      refine v_lald X 3 1 rfl rfl h.1 dX7_points_50 ?_
      replace h := h.2
      refine v_callSi0 X (As := [.long (s_p0_lines ((((45 : Int32) * x_1) + x_2)).toNatClampNeg)]) (rest := [.long (s_p0_lines ((((45 : Int32) * x_1) + x_2)).toNatClampNeg), .ref o_p0]) 1 (c_X7_bits (l := vl E) (D := vD E) (T := T) (x_0 := (s_p0_lines ((((45 : Int32) * x_1) + x_2)).toNatClampNeg)) h) gX7_points_X7_bits rfl rfl (by decide +kernel) ⟨Nat.zero_le _, Nat.zero_le _⟩ ⟨rfl, rfl, by decide, by decide⟩ (Nat.le_of_ble_eq_true rfl) rfl dX7_points_51 (fun r_51 h => ?_)
      refine v_callVi X (As := [.long (s_p0_lines ((((45 : Int32) * x_1) + x_2)).toNatClampNeg), .int r_51]) (rest := []) 2 0 (c_X7_ask (l := vl E) (D := vD E) (T := T) (o_p0 := o_p0) (a_p0 := a_p0) (s_p0_finding := u_2_0) (s_p0_asked := s_p0_asked) (s_p0_newPoints := s_p0_newPoints) (s_p0_newLines := s_p0_newLines) (s_p0_faultAt := s_p0_faultAt) (s_p0_tries := s_p0_tries) (s_p0_things := s_p0_things) (s_p0_goals := s_p0_goals) (s_p0_level := s_p0_level) (x_1 := (s_p0_lines ((((45 : Int32) * x_1) + x_2)).toNatClampNeg)) (x_3 := r_51) h) gX7_points_X7_ask rfl rfl (by decide +kernel) ⟨Nat.zero_le _, Nat.zero_le _⟩ ⟨rfl, rfl, by decide, by decide⟩ (Nat.le_of_ble_eq_true rfl) rfl rfl (wr := [vI T (a_p0 1) 6 u_2_1, vI T (a_p0 4) 6 s_p0_lineCount, vJ T (a_p0 7) 270 s_p0_lines, vI T (a_p0 3) 6 s_p0_points]) [0] [1, 2, 3, 4] rfl rfl rfl rfl (by decide) rfl dX7_points_54 (fun r_54 u h => ?_)
      obtain ⟨u_54_0, rfl⟩ : ∃ z, z = u := ⟨_, rfl⟩
      refine v_ws (ws' := (cl_X7_points T o_p0 a_p0 u_2_0 u_54_0 s_p0_newPoints s_p0_newLines s_p0_faultAt s_p0_tries s_p0_things s_p0_goals s_p0_level u_2_1 s_p0_lineCount s_p0_lines s_p0_points)) [4, 0, 1, 2, 3] rfl rfl ?_
      refine v_goto X (tgt := 65) dX7_points_57 (by decide) ?_
      refine v_lv (lv' := []) [] rfl ?_
      exact k_X7_points_65 X r h
  · replace h := h.2 c_7
    refine v_iload_n X 0 dX7_points_10 rfl rfl ?_
    exact r _ _ _ (u_2_0, s_p0_asked, u_2_1) _ dX7_points_11 h rfl
-- X7_lines
abbrev cl_X7_lines (T : Nat → ClassId) (o_p0 : Nat) (a_p0 : Nat → Nat) (s_p0_finding : Int32) (s_p0_asked : Int64) (s_p0_newPoints : Int32) (s_p0_newLines : Int32) (s_p0_faultAt : Int64) (s_p0_tries : Int32) (s_p0_things : Int32) (s_p0_goals : Int32) (s_p0_level : Int32) (s_p0_findings : Nat → Int32) (s_p0_lineCount : Nat → Int32) (s_p0_lines : Nat → Int64) (s_p0_points : Nat → Int32) : va_W := [vO o_p0 4 [.int s_p0_finding, .ref (a_p0 1), .long s_p0_asked, .ref (a_p0 3), .ref (a_p0 4), .ref (a_p0 5), .ref (a_p0 6), .ref (a_p0 7), .int s_p0_newPoints, .int s_p0_newLines, .ref (a_p0 10), .ref (a_p0 11), .long s_p0_faultAt, .int s_p0_tries, .int s_p0_things, .int s_p0_goals, .ref (a_p0 16), .ref (a_p0 17), .ref (a_p0 18), .ref (a_p0 19), .ref (a_p0 20), .ref (a_p0 21), .int s_p0_level, .ref (a_p0 23), .ref (a_p0 24), .ref (a_p0 25), .ref (a_p0 26), .ref (a_p0 27), .ref (a_p0 28), .ref (a_p0 29), .ref (a_p0 30), .ref (a_p0 31), .ref (a_p0 32)], vI T (a_p0 1) 6 s_p0_findings, vI T (a_p0 4) 6 s_p0_lineCount, vJ T (a_p0 7) 270 s_p0_lines, vI T (a_p0 3) 6 s_p0_points]
abbrev r_X7_lines (E : vE) (T : Nat → ClassId) (o_p0 : Nat) (a_p0 : Nat → Nat) (s_p0_newPoints : Int32) (s_p0_newLines : Int32) (s_p0_faultAt : Int64) (s_p0_tries : Int32) (s_p0_things : Int32) (s_p0_goals : Int32) (s_p0_level : Int32) (s_p0_lineCount : Nat → Int32) (s_p0_lines : Nat → Int64) (s_p0_points : Nat → Int32) (Q : Int32 → (Int32) → (Int64) → (Nat → Int32) → Prop) : Prop := vRi E cX7_lines (fun v (u : (Int32) × (Int64) × (Nat → Int32)) => Q v u.1 u.2.1 u.2.2) (fun (u : (Int32) × (Int64) × (Nat → Int32)) => (cl_X7_lines T o_p0 a_p0 u.1 u.2.1 s_p0_newPoints s_p0_newLines s_p0_faultAt s_p0_tries s_p0_things s_p0_goals s_p0_level u.2.2 s_p0_lineCount s_p0_lines s_p0_points))
def w_X7_lines (x_1 : Int32) (x_2 : Int32) (s_p0_finding : Int32) (s_p0_asked : Int64) (s_p0_findings : Nat → Int32) (s_p0_lineCount : Nat → Int32) (s_p0_lines : Nat → Int64) (s_p0_points : Nat → Int32) (Q : Int32 → (Int32) → (Int64) → (Nat → Int32) → Prop) : Prop := (w_X7_looked x_1 s_p0_finding s_p0_findings s_p0_points (fun (r_2 : Int32) (u_2_0 : Int32) (u_2_1 : Nat → Int32) => ((0 ≤ r_2 → (w_X7_isPoint x_1 x_2 s_p0_points (fun (r_15 : Int32) => ((¬ r_15 = 0 → (w_X7_through x_1 x_2 s_p0_lineCount s_p0_lines (fun (r_30 : Int64) => (w_X7_bits r_30 (fun (r_40 : Int32) => (w_X7_ask r_30 r_40 s_p0_asked (fun (r_43 : Int32) (u_43_0 : Int64) => (Q r_43 u_2_0 u_43_0 u_2_1)))))))) ∧ (r_15 = 0 → (w_X7_meets (2 : Int32) u_2_0 u_2_1 (fun (r_23 : Int32) (u_23_0 : Int32) (u_23_1 : Nat → Int32) => (Q r_23 u_23_0 s_p0_asked u_23_1)))))))) ∧ (¬ 0 ≤ r_2 → (Q r_2 u_2_0 s_p0_asked u_2_1)))))
-- X7_lines
set_option maxHeartbeats 4000000 in
set_option maxRecDepth 100000 in
theorem c_X7_lines {l : Launch} {D : va_G} {T : Nat → ClassId} {o_p0 : Nat} {a_p0 : Nat → Nat} {s_p0_finding : Int32} {s_p0_asked : Int64} {s_p0_newPoints : Int32} {s_p0_newLines : Int32} {s_p0_faultAt : Int64} {s_p0_tries : Int32} {s_p0_things : Int32} {s_p0_goals : Int32} {s_p0_level : Int32} {s_p0_findings : Nat → Int32} {s_p0_lineCount : Nat → Int32} {s_p0_lines : Nat → Int64} {s_p0_points : Nat → Int32} {x_1 : Int32} {x_2 : Int32} {Q : Int32 → (Int32) → (Int64) → (Nat → Int32) → Prop} (h : w_X7_lines x_1 x_2 s_p0_finding s_p0_asked s_p0_findings s_p0_lineCount s_p0_lines s_p0_points Q) : vCi l D (vT T) yX7_lines wsX7_lines (vr 3 63) [.ref o_p0, .int x_1, .int x_2] (cl_X7_lines T o_p0 a_p0 s_p0_finding s_p0_asked s_p0_newPoints s_p0_newLines s_p0_faultAt s_p0_tries s_p0_things s_p0_goals s_p0_level s_p0_findings s_p0_lineCount s_p0_lines s_p0_points) (fun v (u : (Int32) × (Int64) × (Nat → Int32)) => Q v u.1 u.2.1 u.2.2) (fun (u : (Int32) × (Int64) × (Nat → Int32)) => (cl_X7_lines T o_p0 a_p0 u.1 u.2.1 s_p0_newPoints s_p0_newLines s_p0_faultAt s_p0_tries s_p0_things s_p0_goals s_p0_level u.2.2 s_p0_lineCount s_p0_lines s_p0_points)) := by
  refine vC_i (cc := cX7_lines) (nL := 6) (by decide +kernel) rfl ⟨rfl, rfl⟩ (Nat.le_of_ble_eq_true rfl) rfl ?_
  intro E el eD X r
  unfold w_X7_lines at h
  refine v_aload_n X 0 dX7_lines_0 rfl rfl ?_
  refine v_iload_n X 1 dX7_lines_1 rfl rfl ?_
  refine v_callVi X (As := [.int x_1]) (rest := []) 1 0 (c_X7_looked (l := vl E) (D := vD E) (T := T) (o_p0 := o_p0) (a_p0 := a_p0) (s_p0_finding := s_p0_finding) (s_p0_asked := s_p0_asked) (s_p0_newPoints := s_p0_newPoints) (s_p0_newLines := s_p0_newLines) (s_p0_faultAt := s_p0_faultAt) (s_p0_tries := s_p0_tries) (s_p0_things := s_p0_things) (s_p0_goals := s_p0_goals) (s_p0_level := s_p0_level) (s_p0_findings := s_p0_findings) (s_p0_points := s_p0_points) (x_1 := x_1) h) gX7_lines_X7_looked rfl rfl (by decide +kernel) ⟨Nat.zero_le _, Nat.zero_le _⟩ ⟨rfl, rfl, by decide, by decide⟩ (Nat.le_of_ble_eq_true rfl) rfl rfl (wr := [vI T (a_p0 4) 6 s_p0_lineCount, vJ T (a_p0 7) 270 s_p0_lines]) [0, 1, 4] [2, 3] rfl rfl rfl rfl (by decide) rfl dX7_lines_2 (fun r_2 u h => ?_)
  obtain ⟨u_2_0, u_2_1⟩ := u
  dsimp only at h
  refine v_ws (ws' := (cl_X7_lines T o_p0 a_p0 u_2_0 s_p0_asked s_p0_newPoints s_p0_newLines s_p0_faultAt s_p0_tries s_p0_things s_p0_goals s_p0_level u_2_1 s_p0_lineCount s_p0_lines s_p0_points)) [2, 3, 0, 1, 4] rfl rfl ?_
  refine v_istore_n X (lv' := [(3, .int r_2), (0, .ref o_p0), (1, .int x_1), (2, .int x_2)]) dX7_lines_5 rfl (by decide) rfl ?_
  refine v_iload_n X 0 dX7_lines_6 rfl rfl ?_
  refine v_if_ge X (tgt := 12) dX7_lines_7 (by decide) (fun c_7 => ?_) (fun c_7 => ?_)
  · replace h := h.1 c_7
    refine v_aload_n X 1 dX7_lines_12 rfl rfl ?_
    refine v_iload_n X 2 dX7_lines_13 rfl rfl ?_
    refine v_iload_n X 3 dX7_lines_14 rfl rfl ?_
    refine v_callVi X (As := [.int x_1, .int x_2]) (rest := []) 2 0 (c_X7_isPoint (l := vl E) (D := vD E) (T := T) (o_p0 := o_p0) (a_p0 := a_p0) (s_p0_finding := u_2_0) (s_p0_asked := s_p0_asked) (s_p0_newPoints := s_p0_newPoints) (s_p0_newLines := s_p0_newLines) (s_p0_faultAt := s_p0_faultAt) (s_p0_tries := s_p0_tries) (s_p0_things := s_p0_things) (s_p0_goals := s_p0_goals) (s_p0_level := s_p0_level) (s_p0_points := s_p0_points) (x_1 := x_1) (x_2 := x_2) h) gX7_lines_X7_isPoint rfl rfl (by decide +kernel) ⟨Nat.zero_le _, Nat.zero_le _⟩ ⟨rfl, rfl, by decide, by decide⟩ (Nat.le_of_ble_eq_true rfl) rfl rfl (wr := [vI T (a_p0 1) 6 u_2_1, vI T (a_p0 4) 6 s_p0_lineCount, vJ T (a_p0 7) 270 s_p0_lines]) [0, 4] [1, 2, 3] rfl rfl rfl rfl (by decide) rfl dX7_lines_15 (fun r_15 u h => ?_)
    refine v_ws (ws' := (cl_X7_lines T o_p0 a_p0 u_2_0 s_p0_asked s_p0_newPoints s_p0_newLines s_p0_faultAt s_p0_tries s_p0_things s_p0_goals s_p0_level u_2_1 s_p0_lineCount s_p0_lines s_p0_points)) [3, 0, 1, 2, 4] rfl rfl ?_
    refine v_if_ne X (tgt := 27) dX7_lines_18 (by decide) (fun c_18 => ?_) (fun c_18 => ?_)
    · replace h := h.1 c_18
      refine v_aload_n X 1 dX7_lines_27 rfl rfl ?_
      refine v_iload_n X 2 dX7_lines_28 rfl rfl ?_
      refine v_iload_n X 3 dX7_lines_29 rfl rfl ?_
      refine v_callVl X (As := [.int x_1, .int x_2]) (rest := []) 2 0 (c_X7_through (l := vl E) (D := vD E) (T := T) (o_p0 := o_p0) (a_p0 := a_p0) (s_p0_finding := u_2_0) (s_p0_asked := s_p0_asked) (s_p0_newPoints := s_p0_newPoints) (s_p0_newLines := s_p0_newLines) (s_p0_faultAt := s_p0_faultAt) (s_p0_tries := s_p0_tries) (s_p0_things := s_p0_things) (s_p0_goals := s_p0_goals) (s_p0_level := s_p0_level) (s_p0_lineCount := s_p0_lineCount) (s_p0_lines := s_p0_lines) (x_1 := x_1) (x_2 := x_2) h) gX7_lines_X7_through rfl rfl (by decide +kernel) ⟨Nat.zero_le _, Nat.zero_le _⟩ ⟨rfl, rfl, by decide, by decide⟩ (Nat.le_of_ble_eq_true rfl) rfl rfl (wr := [vI T (a_p0 1) 6 u_2_1, vI T (a_p0 3) 6 s_p0_points]) [0, 2, 3] [1, 4] rfl rfl rfl rfl (by decide) rfl dX7_lines_30 (fun r_30 u h => ?_)
      refine v_ws (ws' := (cl_X7_lines T o_p0 a_p0 u_2_0 s_p0_asked s_p0_newPoints s_p0_newLines s_p0_faultAt s_p0_tries s_p0_things s_p0_goals s_p0_level u_2_1 s_p0_lineCount s_p0_lines s_p0_points)) [2, 0, 3, 4, 1] rfl rfl ?_
      refine v_lstore X (lv' := [(4, .long r_30), (3, .int r_2), (0, .ref o_p0), (1, .int x_1), (2, .int x_2)]) dX7_lines_33 (by decide) rfl ?_
      refine v_aload_n X 2 dX7_lines_35 rfl rfl ?_
      refine v_lload X 0 dX7_lines_36 rfl ?_
      refine v_lload X 0 dX7_lines_38 rfl ?_
      refine v_callSi0 X (As := [.long r_30]) (rest := [.long r_30, .ref o_p0]) 1 (c_X7_bits (l := vl E) (D := vD E) (T := T) (x_0 := r_30) h) gX7_lines_X7_bits rfl rfl (by decide +kernel) ⟨Nat.zero_le _, Nat.zero_le _⟩ ⟨rfl, rfl, by decide, by decide⟩ (Nat.le_of_ble_eq_true rfl) rfl dX7_lines_40 (fun r_40 h => ?_)
      refine v_callVi X (As := [.long r_30, .int r_40]) (rest := []) 2 0 (c_X7_ask (l := vl E) (D := vD E) (T := T) (o_p0 := o_p0) (a_p0 := a_p0) (s_p0_finding := u_2_0) (s_p0_asked := s_p0_asked) (s_p0_newPoints := s_p0_newPoints) (s_p0_newLines := s_p0_newLines) (s_p0_faultAt := s_p0_faultAt) (s_p0_tries := s_p0_tries) (s_p0_things := s_p0_things) (s_p0_goals := s_p0_goals) (s_p0_level := s_p0_level) (x_1 := r_30) (x_3 := r_40) h) gX7_lines_X7_ask rfl rfl (by decide +kernel) ⟨Nat.zero_le _, Nat.zero_le _⟩ ⟨rfl, rfl, by decide, by decide⟩ (Nat.le_of_ble_eq_true rfl) rfl rfl (wr := [vI T (a_p0 1) 6 u_2_1, vI T (a_p0 4) 6 s_p0_lineCount, vJ T (a_p0 7) 270 s_p0_lines, vI T (a_p0 3) 6 s_p0_points]) [0] [1, 2, 3, 4] rfl rfl rfl rfl (by decide) rfl dX7_lines_43 (fun r_43 u h => ?_)
      obtain ⟨u_43_0, rfl⟩ : ∃ z, z = u := ⟨_, rfl⟩
      refine v_ws (ws' := (cl_X7_lines T o_p0 a_p0 u_2_0 u_43_0 s_p0_newPoints s_p0_newLines s_p0_faultAt s_p0_tries s_p0_things s_p0_goals s_p0_level u_2_1 s_p0_lineCount s_p0_lines s_p0_points)) [4, 0, 1, 2, 3] rfl rfl ?_
      exact r _ _ _ (u_2_0, u_43_0, u_2_1) _ dX7_lines_46 h rfl
    · replace h := h.2 c_18
      refine v_aload_n X 1 dX7_lines_21 rfl rfl ?_
      refine v_iconst X dX7_lines_22 (v := (2 : Int32)) (by decide) ?_
      refine v_callVi X (As := [.int (2 : Int32)]) (rest := []) 1 0 (c_X7_meets (l := vl E) (D := vD E) (T := T) (o_p0 := o_p0) (a_p0 := a_p0) (s_p0_finding := u_2_0) (s_p0_asked := s_p0_asked) (s_p0_newPoints := s_p0_newPoints) (s_p0_newLines := s_p0_newLines) (s_p0_faultAt := s_p0_faultAt) (s_p0_tries := s_p0_tries) (s_p0_things := s_p0_things) (s_p0_goals := s_p0_goals) (s_p0_level := s_p0_level) (s_p0_findings := u_2_1) (x_1 := (2 : Int32)) h) gX7_lines_X7_meets rfl rfl (by decide +kernel) ⟨Nat.zero_le _, Nat.zero_le _⟩ ⟨rfl, rfl, by decide, by decide⟩ (Nat.le_of_ble_eq_true rfl) rfl rfl (wr := [vI T (a_p0 4) 6 s_p0_lineCount, vJ T (a_p0 7) 270 s_p0_lines, vI T (a_p0 3) 6 s_p0_points]) [0, 1] [2, 3, 4] rfl rfl rfl rfl (by decide) rfl dX7_lines_23 (fun r_23 u h => ?_)
      obtain ⟨u_23_0, u_23_1⟩ := u
      dsimp only at h
      refine v_ws (ws' := (cl_X7_lines T o_p0 a_p0 u_23_0 s_p0_asked s_p0_newPoints s_p0_newLines s_p0_faultAt s_p0_tries s_p0_things s_p0_goals s_p0_level u_23_1 s_p0_lineCount s_p0_lines s_p0_points)) [3, 4, 0, 1, 2] rfl rfl ?_
      exact r _ _ _ (u_23_0, s_p0_asked, u_23_1) _ dX7_lines_26 h rfl
  · replace h := h.2 c_7
    refine v_iload_n X 0 dX7_lines_10 rfl rfl ?_
    exact r _ _ _ (u_2_0, s_p0_asked, u_2_1) _ dX7_lines_11 h rfl
-- X7_fault
abbrev cl_X7_fault (T : Nat → ClassId) (o_p0 : Nat) (a_p0 : Nat → Nat) (s_p0_finding : Int32) (s_p0_asked : Int64) (s_p0_newPoints : Int32) (s_p0_newLines : Int32) (s_p0_faultAt : Int64) (s_p0_tries : Int32) (s_p0_things : Int32) (s_p0_goals : Int32) (s_p0_level : Int32) (s_p0_findings : Nat → Int32) (s_p0_lineCount : Nat → Int32) (s_p0_lines : Nat → Int64) (s_p0_points : Nat → Int32) : va_W := [vO o_p0 4 [.int s_p0_finding, .ref (a_p0 1), .long s_p0_asked, .ref (a_p0 3), .ref (a_p0 4), .ref (a_p0 5), .ref (a_p0 6), .ref (a_p0 7), .int s_p0_newPoints, .int s_p0_newLines, .ref (a_p0 10), .ref (a_p0 11), .long s_p0_faultAt, .int s_p0_tries, .int s_p0_things, .int s_p0_goals, .ref (a_p0 16), .ref (a_p0 17), .ref (a_p0 18), .ref (a_p0 19), .ref (a_p0 20), .ref (a_p0 21), .int s_p0_level, .ref (a_p0 23), .ref (a_p0 24), .ref (a_p0 25), .ref (a_p0 26), .ref (a_p0 27), .ref (a_p0 28), .ref (a_p0 29), .ref (a_p0 30), .ref (a_p0 31), .ref (a_p0 32)], vI T (a_p0 1) 6 s_p0_findings, vI T (a_p0 4) 6 s_p0_lineCount, vJ T (a_p0 7) 270 s_p0_lines, vI T (a_p0 3) 6 s_p0_points]
abbrev r_X7_fault (E : vE) (T : Nat → ClassId) (o_p0 : Nat) (a_p0 : Nat → Nat) (s_p0_newPoints : Int32) (s_p0_newLines : Int32) (s_p0_tries : Int32) (s_p0_things : Int32) (s_p0_goals : Int32) (s_p0_level : Int32) (s_p0_lineCount : Nat → Int32) (s_p0_lines : Nat → Int64) (s_p0_points : Nat → Int32) (Q : Int32 → (Int32) → (Int64) → (Int64) → (Nat → Int32) → Prop) : Prop := vRi E cX7_fault (fun v (u : (Int32) × (Int64) × (Int64) × (Nat → Int32)) => Q v u.1 u.2.1 u.2.2.1 u.2.2.2) (fun (u : (Int32) × (Int64) × (Int64) × (Nat → Int32)) => (cl_X7_fault T o_p0 a_p0 u.1 u.2.1 s_p0_newPoints s_p0_newLines u.2.2.1 s_p0_tries s_p0_things s_p0_goals s_p0_level u.2.2.2 s_p0_lineCount s_p0_lines s_p0_points))
def w_X7_fault_35 (t_0 : Int32) (s_p0_finding : Int32) (s_p0_asked : Int64) (s_p0_faultAt : Int64) (s_p0_findings : Nat → Int32) (s_p0_lineCount : Nat → Int32) (s_p0_lines : Nat → Int64) (s_p0_points : Nat → Int32) (Q : Int32 → (Int32) → (Int64) → (Int64) → (Nat → Int32) → Prop) : Prop := (Q t_0 s_p0_finding s_p0_asked s_p0_faultAt s_p0_findings)
def w_X7_fault (x_1 : Int32) (s_p0_finding : Int32) (s_p0_asked : Int64) (s_p0_faultAt : Int64) (s_p0_findings : Nat → Int32) (s_p0_lineCount : Nat → Int32) (s_p0_lines : Nat → Int64) (s_p0_points : Nat → Int32) (Q : Int32 → (Int32) → (Int64) → (Int64) → (Nat → Int32) → Prop) : Prop := (w_X7_looked x_1 s_p0_finding s_p0_findings s_p0_points (fun (r_2 : Int32) (u_2_0 : Int32) (u_2_1 : Nat → Int32) => ((0 ≤ r_2 → (w_X7_faultOf x_1 s_p0_faultAt s_p0_lineCount s_p0_lines s_p0_points (fun (r_14 : Int32) (u_14_0 : Int64) => ((¬ r_14 = 0 → (w_X7_ask u_14_0 r_14 s_p0_asked (fun (r_32 : Int32) (u_32_0 : Int64) => (w_X7_fault_35 r_32 u_2_0 u_32_0 u_14_0 u_2_1 s_p0_lineCount s_p0_lines s_p0_points Q)))) ∧ (r_14 = 0 → (w_X7_fault_35 (0 : Int32) u_2_0 s_p0_asked u_14_0 u_2_1 s_p0_lineCount s_p0_lines s_p0_points Q)))))) ∧ (¬ 0 ≤ r_2 → (Q r_2 u_2_0 s_p0_asked s_p0_faultAt u_2_1)))))
-- X7_fault
theorem iX7_fault_X7 : ∀ w ∈ wsX70, w ∈ wsX7_fault := by decide +kernel
set_option maxHeartbeats 4000000 in
set_option maxRecDepth 100000 in
theorem k_X7_fault_35 {E : vE} {T : Nat → ClassId} {o_p0 : Nat} {a_p0 : Nat → Nat} {s_p0_finding : Int32} {s_p0_asked : Int64} {s_p0_newPoints : Int32} {s_p0_newLines : Int32} {s_p0_faultAt : Int64} {s_p0_tries : Int32} {s_p0_things : Int32} {s_p0_goals : Int32} {s_p0_level : Int32} {s_p0_findings : Nat → Int32} {s_p0_lineCount : Nat → Int32} {s_p0_lines : Nat → Int64} {s_p0_points : Nat → Int32} {t_0 : Int32} {Q : Int32 → (Int32) → (Int64) → (Int64) → (Nat → Int32) → Prop} (X : vX E cX7_fault 4 RX7 wsX7_fault (vT T) (vr 3 63)) (r : r_X7_fault E T o_p0 a_p0 s_p0_newPoints s_p0_newLines s_p0_tries s_p0_things s_p0_goals s_p0_level s_p0_lineCount s_p0_lines s_p0_points Q) (h : w_X7_fault_35 t_0 s_p0_finding s_p0_asked s_p0_faultAt s_p0_findings s_p0_lineCount s_p0_lines s_p0_points Q) : V E 0 0 35 [] [.int t_0] (cl_X7_fault T o_p0 a_p0 s_p0_finding s_p0_asked s_p0_newPoints s_p0_newLines s_p0_faultAt s_p0_tries s_p0_things s_p0_goals s_p0_level s_p0_findings s_p0_lineCount s_p0_lines s_p0_points) := by
  unfold w_X7_fault_35 at h
  exact r _ _ _ (s_p0_finding, s_p0_asked, s_p0_faultAt, s_p0_findings) _ dX7_fault_35 h rfl
set_option maxHeartbeats 4000000 in
set_option maxRecDepth 100000 in
theorem c_X7_fault {l : Launch} {D : va_G} {T : Nat → ClassId} {o_p0 : Nat} {a_p0 : Nat → Nat} {s_p0_finding : Int32} {s_p0_asked : Int64} {s_p0_newPoints : Int32} {s_p0_newLines : Int32} {s_p0_faultAt : Int64} {s_p0_tries : Int32} {s_p0_things : Int32} {s_p0_goals : Int32} {s_p0_level : Int32} {s_p0_findings : Nat → Int32} {s_p0_lineCount : Nat → Int32} {s_p0_lines : Nat → Int64} {s_p0_points : Nat → Int32} {x_1 : Int32} {Q : Int32 → (Int32) → (Int64) → (Int64) → (Nat → Int32) → Prop} (h : w_X7_fault x_1 s_p0_finding s_p0_asked s_p0_faultAt s_p0_findings s_p0_lineCount s_p0_lines s_p0_points Q) : vCi l D (vT T) yX7_fault wsX7_fault (vr 3 63) [.ref o_p0, .int x_1] (cl_X7_fault T o_p0 a_p0 s_p0_finding s_p0_asked s_p0_newPoints s_p0_newLines s_p0_faultAt s_p0_tries s_p0_things s_p0_goals s_p0_level s_p0_findings s_p0_lineCount s_p0_lines s_p0_points) (fun v (u : (Int32) × (Int64) × (Int64) × (Nat → Int32)) => Q v u.1 u.2.1 u.2.2.1 u.2.2.2) (fun (u : (Int32) × (Int64) × (Int64) × (Nat → Int32)) => (cl_X7_fault T o_p0 a_p0 u.1 u.2.1 s_p0_newPoints s_p0_newLines u.2.2.1 s_p0_tries s_p0_things s_p0_goals s_p0_level u.2.2.2 s_p0_lineCount s_p0_lines s_p0_points)) := by
  refine vC_i (cc := cX7_fault) (nL := 4) (by decide +kernel) rfl ⟨rfl, rfl⟩ (Nat.le_of_ble_eq_true rfl) rfl ?_
  intro E el eD X r
  unfold w_X7_fault at h
  refine v_aload_n X 0 dX7_fault_0 rfl rfl ?_
  refine v_iload_n X 1 dX7_fault_1 rfl rfl ?_
  refine v_callVi X (As := [.int x_1]) (rest := []) 1 0 (c_X7_looked (l := vl E) (D := vD E) (T := T) (o_p0 := o_p0) (a_p0 := a_p0) (s_p0_finding := s_p0_finding) (s_p0_asked := s_p0_asked) (s_p0_newPoints := s_p0_newPoints) (s_p0_newLines := s_p0_newLines) (s_p0_faultAt := s_p0_faultAt) (s_p0_tries := s_p0_tries) (s_p0_things := s_p0_things) (s_p0_goals := s_p0_goals) (s_p0_level := s_p0_level) (s_p0_findings := s_p0_findings) (s_p0_points := s_p0_points) (x_1 := x_1) h) gX7_fault_X7_looked rfl rfl (by decide +kernel) ⟨Nat.zero_le _, Nat.zero_le _⟩ ⟨rfl, rfl, by decide, by decide⟩ (Nat.le_of_ble_eq_true rfl) rfl rfl (wr := [vI T (a_p0 4) 6 s_p0_lineCount, vJ T (a_p0 7) 270 s_p0_lines]) [0, 1, 4] [2, 3] rfl rfl rfl rfl (by decide) rfl dX7_fault_2 (fun r_2 u h => ?_)
  obtain ⟨u_2_0, u_2_1⟩ := u
  dsimp only at h
  refine v_ws (ws' := (cl_X7_fault T o_p0 a_p0 u_2_0 s_p0_asked s_p0_newPoints s_p0_newLines s_p0_faultAt s_p0_tries s_p0_things s_p0_goals s_p0_level u_2_1 s_p0_lineCount s_p0_lines s_p0_points)) [2, 3, 0, 1, 4] rfl rfl ?_
  refine v_istore_n X (lv' := [(2, .int r_2), (0, .ref o_p0), (1, .int x_1)]) dX7_fault_5 rfl (by decide) rfl ?_
  refine v_iload_n X 0 dX7_fault_6 rfl rfl ?_
  refine v_if_ge X (tgt := 12) dX7_fault_7 (by decide) (fun c_7 => ?_) (fun c_7 => ?_)
  · replace h := h.1 c_7
    refine v_aload_n X 1 dX7_fault_12 rfl rfl ?_
    refine v_iload_n X 2 dX7_fault_13 rfl rfl ?_
    refine v_callVi X (As := [.int x_1]) (rest := []) 1 0 (c_X7_faultOf (l := vl E) (D := vD E) (T := T) (o_p0 := o_p0) (a_p0 := a_p0) (s_p0_finding := u_2_0) (s_p0_asked := s_p0_asked) (s_p0_newPoints := s_p0_newPoints) (s_p0_newLines := s_p0_newLines) (s_p0_faultAt := s_p0_faultAt) (s_p0_tries := s_p0_tries) (s_p0_things := s_p0_things) (s_p0_goals := s_p0_goals) (s_p0_level := s_p0_level) (s_p0_lineCount := s_p0_lineCount) (s_p0_lines := s_p0_lines) (s_p0_points := s_p0_points) (x_1 := x_1) h) gX7_fault_X7_faultOf rfl rfl (by decide +kernel) ⟨Nat.zero_le _, Nat.zero_le _⟩ ⟨rfl, rfl, by decide, by decide⟩ (Nat.le_of_ble_eq_true rfl) rfl rfl (wr := [vI T (a_p0 1) 6 u_2_1]) [0, 2, 3, 4] [1] rfl rfl rfl rfl (by decide) rfl dX7_fault_14 (fun r_14 u h => ?_)
    obtain ⟨u_14_0, rfl⟩ : ∃ z, z = u := ⟨_, rfl⟩
    refine v_ws (ws' := (cl_X7_fault T o_p0 a_p0 u_2_0 s_p0_asked s_p0_newPoints s_p0_newLines u_14_0 s_p0_tries s_p0_things s_p0_goals s_p0_level u_2_1 s_p0_lineCount s_p0_lines s_p0_points)) [1, 0, 2, 3, 4] rfl rfl ?_
    refine v_istore_n X (lv' := [(3, .int r_14), (2, .int r_2), (0, .ref o_p0), (1, .int x_1)]) dX7_fault_17 rfl (by decide) rfl ?_
    refine v_iload_n X 0 dX7_fault_18 rfl rfl ?_
    refine v_if_ne X (tgt := 26) dX7_fault_19 (by decide) (fun c_19 => ?_) (fun c_19 => ?_)
    · replace h := h.1 c_19
      refine v_aload_n X 2 dX7_fault_26 rfl rfl ?_
      refine v_aload_n X 2 dX7_fault_27 rfl rfl ?_
      refine v_get X 0 12 (F := TX7) (N := 33) iX7_fault_X7 rfl rfl (by decide) (List.mem_of_getElem? (i := 1) rfl) rfl rfl dX7_fault_28 ?_
      refine v_iload_n X 0 dX7_fault_31 rfl rfl ?_
      refine v_callVi X (As := [.long u_14_0, .int r_14]) (rest := []) 2 0 (c_X7_ask (l := vl E) (D := vD E) (T := T) (o_p0 := o_p0) (a_p0 := a_p0) (s_p0_finding := u_2_0) (s_p0_asked := s_p0_asked) (s_p0_newPoints := s_p0_newPoints) (s_p0_newLines := s_p0_newLines) (s_p0_faultAt := u_14_0) (s_p0_tries := s_p0_tries) (s_p0_things := s_p0_things) (s_p0_goals := s_p0_goals) (s_p0_level := s_p0_level) (x_1 := u_14_0) (x_3 := r_14) h) gX7_fault_X7_ask rfl rfl (by decide +kernel) ⟨Nat.zero_le _, Nat.zero_le _⟩ ⟨rfl, rfl, by decide, by decide⟩ (Nat.le_of_ble_eq_true rfl) rfl rfl (wr := [vI T (a_p0 1) 6 u_2_1, vI T (a_p0 4) 6 s_p0_lineCount, vJ T (a_p0 7) 270 s_p0_lines, vI T (a_p0 3) 6 s_p0_points]) [0] [1, 2, 3, 4] rfl rfl rfl rfl (by decide) rfl dX7_fault_32 (fun r_32 u h => ?_)
      obtain ⟨u_32_0, rfl⟩ : ∃ z, z = u := ⟨_, rfl⟩
      refine v_ws (ws' := (cl_X7_fault T o_p0 a_p0 u_2_0 u_32_0 s_p0_newPoints s_p0_newLines u_14_0 s_p0_tries s_p0_things s_p0_goals s_p0_level u_2_1 s_p0_lineCount s_p0_lines s_p0_points)) [4, 0, 1, 2, 3] rfl rfl ?_
      refine v_lv (lv' := []) [] rfl ?_
      exact k_X7_fault_35 X r h
    · replace h := h.2 c_19
      refine v_iconst X dX7_fault_22 (v := (0 : Int32)) (by decide) ?_
      refine v_goto X (tgt := 35) dX7_fault_23 (by decide) ?_
      refine v_lv (lv' := []) [] rfl ?_
      exact k_X7_fault_35 X r h
  · replace h := h.2 c_7
    refine v_iload_n X 0 dX7_fault_10 rfl rfl ?_
    exact r _ _ _ (u_2_0, s_p0_asked, s_p0_faultAt, u_2_1) _ dX7_fault_11 h rfl
-- X7_mean
abbrev cl_X7_mean (T : Nat → ClassId) (o_p0 : Nat) (a_p0 : Nat → Nat) (s_p0_finding : Int32) (s_p0_asked : Int64) (s_p0_newPoints : Int32) (s_p0_newLines : Int32) (s_p0_faultAt : Int64) (s_p0_tries : Int32) (s_p0_things : Int32) (s_p0_goals : Int32) (s_p0_level : Int32) (s_p0_findings : Nat → Int32) (s_p0_lineCount : Nat → Int32) (s_p0_lines : Nat → Int64) (s_p0_points : Nat → Int32) : va_W := [vO o_p0 4 [.int s_p0_finding, .ref (a_p0 1), .long s_p0_asked, .ref (a_p0 3), .ref (a_p0 4), .ref (a_p0 5), .ref (a_p0 6), .ref (a_p0 7), .int s_p0_newPoints, .int s_p0_newLines, .ref (a_p0 10), .ref (a_p0 11), .long s_p0_faultAt, .int s_p0_tries, .int s_p0_things, .int s_p0_goals, .ref (a_p0 16), .ref (a_p0 17), .ref (a_p0 18), .ref (a_p0 19), .ref (a_p0 20), .ref (a_p0 21), .int s_p0_level, .ref (a_p0 23), .ref (a_p0 24), .ref (a_p0 25), .ref (a_p0 26), .ref (a_p0 27), .ref (a_p0 28), .ref (a_p0 29), .ref (a_p0 30), .ref (a_p0 31), .ref (a_p0 32)], vI T (a_p0 1) 6 s_p0_findings, vI T (a_p0 4) 6 s_p0_lineCount, vJ T (a_p0 7) 270 s_p0_lines, vI T (a_p0 3) 6 s_p0_points]
abbrev r_X7_mean (E : vE) (T : Nat → ClassId) (o_p0 : Nat) (a_p0 : Nat → Nat) (s_p0_asked : Int64) (s_p0_newPoints : Int32) (s_p0_newLines : Int32) (s_p0_faultAt : Int64) (s_p0_tries : Int32) (s_p0_things : Int32) (s_p0_goals : Int32) (s_p0_level : Int32) (s_p0_lineCount : Nat → Int32) (s_p0_lines : Nat → Int64) (s_p0_points : Nat → Int32) (Q : Int32 → (Int32) → (Nat → Int32) → Prop) : Prop := vRi E cX7_mean (fun v (u : (Int32) × (Nat → Int32)) => Q v u.1 u.2) (fun (u : (Int32) × (Nat → Int32)) => (cl_X7_mean T o_p0 a_p0 u.1 s_p0_asked s_p0_newPoints s_p0_newLines s_p0_faultAt s_p0_tries s_p0_things s_p0_goals s_p0_level u.2 s_p0_lineCount s_p0_lines s_p0_points))
def w_X7_mean_77 (t_0 : Int32) (s_p0_finding : Int32) (s_p0_findings : Nat → Int32) (s_p0_lineCount : Nat → Int32) (s_p0_lines : Nat → Int64) (s_p0_points : Nat → Int32) (Q : Int32 → (Int32) → (Nat → Int32) → Prop) : Prop := (Q t_0 s_p0_finding s_p0_findings)
def w_X7_mean_17s (x_1 : Int32) (s_p0_finding : Int32) (s_p0_findings : Nat → Int32) (s_p0_lineCount : Nat → Int32) (s_p0_lines : Nat → Int64) (s_p0_points : Nat → Int32) (Q : Int32 → (Int32) → (Nat → Int32) → Prop) (K_17 : (Int32) → (Int32) → Prop) (x_3 : Int32) (x_4 : Int32) : Prop := (vp_in x_1 6 ∧ (((s_p0_lineCount (x_1).toNatClampNeg) ≤ x_4 → (vp_in x_1 6 ∧ ((¬ (s_p0_lineCount (x_1).toNatClampNeg) = 0 → (vp_in x_1 6 ∧ (¬ (s_p0_lineCount (x_1).toNatClampNeg) = 0 ∧ (w_X7_mean_77 (x_3 / (s_p0_lineCount (x_1).toNatClampNeg)) s_p0_finding s_p0_findings s_p0_lineCount s_p0_lines s_p0_points Q)))) ∧ ((s_p0_lineCount (x_1).toNatClampNeg) = 0 → (w_X7_meets (4 : Int32) s_p0_finding s_p0_findings (fun (r_63 : Int32) (u_63_0 : Int32) (u_63_1 : Nat → Int32) => (w_X7_mean_77 r_63 u_63_0 u_63_1 s_p0_lineCount s_p0_lines s_p0_points Q))))))) ∧ (¬ (s_p0_lineCount (x_1).toNatClampNeg) ≤ x_4 → (vp_in (((45 : Int32) * x_1) + x_4) 270 ∧ (w_X7_bits (s_p0_lines ((((45 : Int32) * x_1) + x_4)).toNatClampNeg) (fun (r_41 : Int32) => (K_17 (x_3 + r_41) (x_4 + (1 : Int32)))))))))
def w_X7_mean_17 (x_1 : Int32) (s_p0_finding : Int32) (s_p0_findings : Nat → Int32) (s_p0_lineCount : Nat → Int32) (s_p0_lines : Nat → Int64) (s_p0_points : Nat → Int32) (Q : Int32 → (Int32) → (Nat → Int32) → Prop) : Nat → (Int32) → (Int32) → Prop
  | 0 => fun _ _ => False
  | n_ + 1 => w_X7_mean_17s x_1 s_p0_finding s_p0_findings s_p0_lineCount s_p0_lines s_p0_points Q (w_X7_mean_17 x_1 s_p0_finding s_p0_findings s_p0_lineCount s_p0_lines s_p0_points Q n_)
def w_X7_mean (x_1 : Int32) (s_p0_finding : Int32) (s_p0_findings : Nat → Int32) (s_p0_lineCount : Nat → Int32) (s_p0_lines : Nat → Int64) (s_p0_points : Nat → Int32) (Q : Int32 → (Int32) → (Nat → Int32) → Prop) : Prop := (w_X7_looked x_1 s_p0_finding s_p0_findings s_p0_points (fun (r_2 : Int32) (u_2_0 : Int32) (u_2_1 : Nat → Int32) => ((0 ≤ r_2 → (∃ n_, w_X7_mean_17 x_1 u_2_0 u_2_1 s_p0_lineCount s_p0_lines s_p0_points Q n_ (0 : Int32) (0 : Int32))) ∧ (¬ 0 ≤ r_2 → (Q r_2 u_2_0 u_2_1)))))
-- X7_mean
theorem iX7_mean_X7 : ∀ w ∈ wsX70, w ∈ wsX7_mean := by decide +kernel
set_option maxHeartbeats 4000000 in
set_option maxRecDepth 100000 in
theorem k_X7_mean_77 {E : vE} {T : Nat → ClassId} {o_p0 : Nat} {a_p0 : Nat → Nat} {s_p0_finding : Int32} {s_p0_asked : Int64} {s_p0_newPoints : Int32} {s_p0_newLines : Int32} {s_p0_faultAt : Int64} {s_p0_tries : Int32} {s_p0_things : Int32} {s_p0_goals : Int32} {s_p0_level : Int32} {s_p0_findings : Nat → Int32} {s_p0_lineCount : Nat → Int32} {s_p0_lines : Nat → Int64} {s_p0_points : Nat → Int32} {t_0 : Int32} {Q : Int32 → (Int32) → (Nat → Int32) → Prop} (X : vX E cX7_mean 5 RX7 wsX7_mean (vT T) (vr 3 63)) (r : r_X7_mean E T o_p0 a_p0 s_p0_asked s_p0_newPoints s_p0_newLines s_p0_faultAt s_p0_tries s_p0_things s_p0_goals s_p0_level s_p0_lineCount s_p0_lines s_p0_points Q) (h : w_X7_mean_77 t_0 s_p0_finding s_p0_findings s_p0_lineCount s_p0_lines s_p0_points Q) : V E 0 0 77 [] [.int t_0] (cl_X7_mean T o_p0 a_p0 s_p0_finding s_p0_asked s_p0_newPoints s_p0_newLines s_p0_faultAt s_p0_tries s_p0_things s_p0_goals s_p0_level s_p0_findings s_p0_lineCount s_p0_lines s_p0_points) := by
  unfold w_X7_mean_77 at h
  exact r _ _ _ (s_p0_finding, s_p0_findings) _ dX7_mean_77 h rfl
set_option maxHeartbeats 4000000 in
set_option maxRecDepth 100000 in
theorem k_X7_mean_17 {E : vE} {T : Nat → ClassId} {o_p0 : Nat} {a_p0 : Nat → Nat} {s_p0_finding : Int32} {s_p0_asked : Int64} {s_p0_newPoints : Int32} {s_p0_newLines : Int32} {s_p0_faultAt : Int64} {s_p0_tries : Int32} {s_p0_things : Int32} {s_p0_goals : Int32} {s_p0_level : Int32} {s_p0_findings : Nat → Int32} {s_p0_lineCount : Nat → Int32} {s_p0_lines : Nat → Int64} {s_p0_points : Nat → Int32} {x_1 : Int32} {Q : Int32 → (Int32) → (Nat → Int32) → Prop} (X : vX E cX7_mean 5 RX7 wsX7_mean (vT T) (vr 3 63)) (r : r_X7_mean E T o_p0 a_p0 s_p0_asked s_p0_newPoints s_p0_newLines s_p0_faultAt s_p0_tries s_p0_things s_p0_goals s_p0_level s_p0_lineCount s_p0_lines s_p0_points Q) : ∀ (n_ : Nat) (x_3 : Int32) (x_4 : Int32), w_X7_mean_17 x_1 s_p0_finding s_p0_findings s_p0_lineCount s_p0_lines s_p0_points Q n_ x_3 x_4 → V E 0 0 17 [(0, .ref o_p0), (1, .int x_1), (3, .int x_3), (4, .int x_4)] [] (cl_X7_mean T o_p0 a_p0 s_p0_finding s_p0_asked s_p0_newPoints s_p0_newLines s_p0_faultAt s_p0_tries s_p0_things s_p0_goals s_p0_level s_p0_findings s_p0_lineCount s_p0_lines s_p0_points) := by
  intro n_
  induction n_ with
  | zero => intro x_3 x_4 h; exact h.elim
  | succ n_ hK_17 =>
    intro x_3 x_4 h
    replace h : w_X7_mean_17s x_1 s_p0_finding s_p0_findings s_p0_lineCount s_p0_lines s_p0_points Q (w_X7_mean_17 x_1 s_p0_finding s_p0_findings s_p0_lineCount s_p0_lines s_p0_points Q n_) x_3 x_4 := h
    unfold w_X7_mean_17s at h
    refine v_iload X 3 dX7_mean_17 rfl ?_
    refine v_aload_n X 0 dX7_mean_19 rfl rfl ?_
    refine v_get X 0 4 (F := TX7) (N := 33) iX7_mean_X7 rfl rfl (by decide) (List.mem_of_getElem? (i := 1) rfl) rfl rfl dX7_mean_20 ?_
    refine v_iload_n X 1 dX7_mean_23 rfl rfl ?_
    refine v_iald X 2 0 rfl rfl h.1 dX7_mean_24 ?_
    replace h := h.2
    refine v_icmp_ge X (tgt := 52) dX7_mean_25 (by decide) (fun c_25 => ?_) (fun c_25 => ?_)
    · replace h := h.1 c_25
      refine v_aload_n X 0 dX7_mean_52 rfl rfl ?_
      refine v_get X 0 4 (F := TX7) (N := 33) iX7_mean_X7 rfl rfl (by decide) (List.mem_of_getElem? (i := 1) rfl) rfl rfl dX7_mean_53 ?_
      refine v_iload_n X 1 dX7_mean_56 rfl rfl ?_
      refine v_iald X 2 0 rfl rfl h.1 dX7_mean_57 ?_
      replace h := h.2
      refine v_if_ne X (tgt := 69) dX7_mean_58 (by decide) (fun c_58 => ?_) (fun c_58 => ?_)
      · replace h := h.1 c_58
        refine v_iload_n X 2 dX7_mean_69 rfl rfl ?_
        refine v_aload_n X 0 dX7_mean_70 rfl rfl ?_
        refine v_get X 0 4 (F := TX7) (N := 33) iX7_mean_X7 rfl rfl (by decide) (List.mem_of_getElem? (i := 1) rfl) rfl rfl dX7_mean_71 ?_
        refine v_iload_n X 1 dX7_mean_74 rfl rfl ?_
        refine v_iald X 2 0 rfl rfl h.1 dX7_mean_75 ?_
        replace h := h.2
        refine v_idiv X dX7_mean_76 h.1 ?_
        replace h := h.2
        refine v_lv (lv' := []) [] rfl ?_
        exact k_X7_mean_77 X r h
      · replace h := h.2 c_58
        refine v_aload_n X 0 dX7_mean_61 rfl rfl ?_
        refine v_iconst X dX7_mean_62 (v := (4 : Int32)) (by decide) ?_
        refine v_callVi X (As := [.int (4 : Int32)]) (rest := []) 1 0 (c_X7_meets (l := vl E) (D := vD E) (T := T) (o_p0 := o_p0) (a_p0 := a_p0) (s_p0_finding := s_p0_finding) (s_p0_asked := s_p0_asked) (s_p0_newPoints := s_p0_newPoints) (s_p0_newLines := s_p0_newLines) (s_p0_faultAt := s_p0_faultAt) (s_p0_tries := s_p0_tries) (s_p0_things := s_p0_things) (s_p0_goals := s_p0_goals) (s_p0_level := s_p0_level) (s_p0_findings := s_p0_findings) (x_1 := (4 : Int32)) h) gX7_mean_X7_meets rfl rfl (by decide +kernel) ⟨Nat.zero_le _, Nat.zero_le _⟩ ⟨rfl, rfl, by decide, by decide⟩ (Nat.le_of_ble_eq_true rfl) rfl rfl (wr := [vI T (a_p0 4) 6 s_p0_lineCount, vJ T (a_p0 7) 270 s_p0_lines, vI T (a_p0 3) 6 s_p0_points]) [0, 1] [2, 3, 4] rfl rfl rfl rfl (by decide) rfl dX7_mean_63 (fun r_63 u h => ?_)
        obtain ⟨u_63_0, u_63_1⟩ := u
        dsimp only at h
        refine v_ws (ws' := (cl_X7_mean T o_p0 a_p0 u_63_0 s_p0_asked s_p0_newPoints s_p0_newLines s_p0_faultAt s_p0_tries s_p0_things s_p0_goals s_p0_level u_63_1 s_p0_lineCount s_p0_lines s_p0_points)) [3, 4, 0, 1, 2] rfl rfl ?_
        refine v_goto X (tgt := 77) dX7_mean_66 (by decide) ?_
        refine v_lv (lv' := []) [] rfl ?_
        exact k_X7_mean_77 X r h
    · replace h := h.2 c_25
      refine v_iload_n X 2 dX7_mean_28 rfl rfl ?_
      refine v_aload_n X 0 dX7_mean_29 rfl rfl ?_
      refine v_get X 0 7 (F := TX7) (N := 33) iX7_mean_X7 rfl rfl (by decide) (List.mem_of_getElem? (i := 2) rfl) rfl rfl dX7_mean_30 ?_
      refine v_bipush X dX7_mean_33 (v := (45 : Int32)) (by decide) ?_
      refine v_iload_n X 1 dX7_mean_35 rfl rfl ?_
      refine v_imul X dX7_mean_36 ?_
      refine v_iload X 3 dX7_mean_37 rfl ?_
      refine v_iadd X dX7_mean_39 ?_
      refine v_lald X 3 1 rfl rfl h.1 dX7_mean_40 ?_
      replace h := h.2
      refine v_callSi0 X (As := [.long (s_p0_lines ((((45 : Int32) * x_1) + x_4)).toNatClampNeg)]) (rest := [.int x_3]) 1 (c_X7_bits (l := vl E) (D := vD E) (T := T) (x_0 := (s_p0_lines ((((45 : Int32) * x_1) + x_4)).toNatClampNeg)) h) gX7_mean_X7_bits rfl rfl (by decide +kernel) ⟨Nat.zero_le _, Nat.zero_le _⟩ ⟨rfl, rfl, by decide, by decide⟩ (Nat.le_of_ble_eq_true rfl) rfl dX7_mean_41 (fun r_41 h => ?_)
      refine v_iadd X dX7_mean_44 ?_
      refine v_istore_n X (lv' := [(3, .int (x_3 + r_41)), (0, .ref o_p0), (1, .int x_1), (4, .int x_4)]) dX7_mean_45 rfl (by decide) rfl ?_
      refine v_iinc X (v := (x_4 + (1 : Int32))) (lv' := [(4, .int (x_4 + (1 : Int32))), (3, .int (x_3 + r_41)), (0, .ref o_p0), (1, .int x_1)]) 3 dX7_mean_46 rfl rfl (by decide) rfl ?_
      refine v_goto X (tgt := 17) dX7_mean_49 (by decide) ?_
      refine v_lv (lv' := [(0, .ref o_p0), (1, .int x_1), (3, .int (x_3 + r_41)), (4, .int (x_4 + (1 : Int32)))]) [2, 3, 1, 0] rfl ?_
      exact hK_17 _ _ h
set_option maxHeartbeats 4000000 in
set_option maxRecDepth 100000 in
theorem c_X7_mean {l : Launch} {D : va_G} {T : Nat → ClassId} {o_p0 : Nat} {a_p0 : Nat → Nat} {s_p0_finding : Int32} {s_p0_asked : Int64} {s_p0_newPoints : Int32} {s_p0_newLines : Int32} {s_p0_faultAt : Int64} {s_p0_tries : Int32} {s_p0_things : Int32} {s_p0_goals : Int32} {s_p0_level : Int32} {s_p0_findings : Nat → Int32} {s_p0_lineCount : Nat → Int32} {s_p0_lines : Nat → Int64} {s_p0_points : Nat → Int32} {x_1 : Int32} {Q : Int32 → (Int32) → (Nat → Int32) → Prop} (h : w_X7_mean x_1 s_p0_finding s_p0_findings s_p0_lineCount s_p0_lines s_p0_points Q) : vCi l D (vT T) yX7_mean wsX7_mean (vr 3 63) [.ref o_p0, .int x_1] (cl_X7_mean T o_p0 a_p0 s_p0_finding s_p0_asked s_p0_newPoints s_p0_newLines s_p0_faultAt s_p0_tries s_p0_things s_p0_goals s_p0_level s_p0_findings s_p0_lineCount s_p0_lines s_p0_points) (fun v (u : (Int32) × (Nat → Int32)) => Q v u.1 u.2) (fun (u : (Int32) × (Nat → Int32)) => (cl_X7_mean T o_p0 a_p0 u.1 s_p0_asked s_p0_newPoints s_p0_newLines s_p0_faultAt s_p0_tries s_p0_things s_p0_goals s_p0_level u.2 s_p0_lineCount s_p0_lines s_p0_points)) := by
  refine vC_i (cc := cX7_mean) (nL := 5) (by decide +kernel) rfl ⟨rfl, rfl⟩ (Nat.le_of_ble_eq_true rfl) rfl ?_
  intro E el eD X r
  unfold w_X7_mean at h
  refine v_aload_n X 0 dX7_mean_0 rfl rfl ?_
  refine v_iload_n X 1 dX7_mean_1 rfl rfl ?_
  refine v_callVi X (As := [.int x_1]) (rest := []) 1 0 (c_X7_looked (l := vl E) (D := vD E) (T := T) (o_p0 := o_p0) (a_p0 := a_p0) (s_p0_finding := s_p0_finding) (s_p0_asked := s_p0_asked) (s_p0_newPoints := s_p0_newPoints) (s_p0_newLines := s_p0_newLines) (s_p0_faultAt := s_p0_faultAt) (s_p0_tries := s_p0_tries) (s_p0_things := s_p0_things) (s_p0_goals := s_p0_goals) (s_p0_level := s_p0_level) (s_p0_findings := s_p0_findings) (s_p0_points := s_p0_points) (x_1 := x_1) h) gX7_mean_X7_looked rfl rfl (by decide +kernel) ⟨Nat.zero_le _, Nat.zero_le _⟩ ⟨rfl, rfl, by decide, by decide⟩ (Nat.le_of_ble_eq_true rfl) rfl rfl (wr := [vI T (a_p0 4) 6 s_p0_lineCount, vJ T (a_p0 7) 270 s_p0_lines]) [0, 1, 4] [2, 3] rfl rfl rfl rfl (by decide) rfl dX7_mean_2 (fun r_2 u h => ?_)
  obtain ⟨u_2_0, u_2_1⟩ := u
  dsimp only at h
  refine v_ws (ws' := (cl_X7_mean T o_p0 a_p0 u_2_0 s_p0_asked s_p0_newPoints s_p0_newLines s_p0_faultAt s_p0_tries s_p0_things s_p0_goals s_p0_level u_2_1 s_p0_lineCount s_p0_lines s_p0_points)) [2, 3, 0, 1, 4] rfl rfl ?_
  refine v_istore_n X (lv' := [(2, .int r_2), (0, .ref o_p0), (1, .int x_1)]) dX7_mean_5 rfl (by decide) rfl ?_
  refine v_iload_n X 0 dX7_mean_6 rfl rfl ?_
  refine v_if_ge X (tgt := 12) dX7_mean_7 (by decide) (fun c_7 => ?_) (fun c_7 => ?_)
  · replace h := h.1 c_7
    refine v_iconst X dX7_mean_12 (v := (0 : Int32)) (by decide) ?_
    refine v_istore_n X (lv' := [(3, .int (0 : Int32)), (2, .int r_2), (0, .ref o_p0), (1, .int x_1)]) dX7_mean_13 rfl (by decide) rfl ?_
    refine v_iconst X dX7_mean_14 (v := (0 : Int32)) (by decide) ?_
    refine v_istore X (lv' := [(4, .int (0 : Int32)), (3, .int (0 : Int32)), (2, .int r_2), (0, .ref o_p0), (1, .int x_1)]) dX7_mean_15 (by decide) rfl ?_
    refine v_lv (lv' := [(0, .ref o_p0), (1, .int x_1), (3, .int (0 : Int32)), (4, .int (0 : Int32))]) [3, 4, 1, 0] rfl ?_
    obtain ⟨n_, h⟩ := h
    exact k_X7_mean_17 X r n_ _ _ h
  · replace h := h.2 c_7
    refine v_iload_n X 0 dX7_mean_10 rfl rfl ?_
    exact r _ _ _ (u_2_0, u_2_1) _ dX7_mean_11 h rfl
-- X7_perp
abbrev cl_X7_perp (T : Nat → ClassId) (o_p0 : Nat) (a_p0 : Nat → Nat) (s_p0_finding : Int32) (s_p0_asked : Int64) (s_p0_newPoints : Int32) (s_p0_newLines : Int32) (s_p0_faultAt : Int64) (s_p0_tries : Int32) (s_p0_things : Int32) (s_p0_goals : Int32) (s_p0_level : Int32) (s_p0_findings : Nat → Int32) (s_p0_lineCount : Nat → Int32) (s_p0_lines : Nat → Int64) (s_p0_points : Nat → Int32) : va_W := [vO o_p0 4 [.int s_p0_finding, .ref (a_p0 1), .long s_p0_asked, .ref (a_p0 3), .ref (a_p0 4), .ref (a_p0 5), .ref (a_p0 6), .ref (a_p0 7), .int s_p0_newPoints, .int s_p0_newLines, .ref (a_p0 10), .ref (a_p0 11), .long s_p0_faultAt, .int s_p0_tries, .int s_p0_things, .int s_p0_goals, .ref (a_p0 16), .ref (a_p0 17), .ref (a_p0 18), .ref (a_p0 19), .ref (a_p0 20), .ref (a_p0 21), .int s_p0_level, .ref (a_p0 23), .ref (a_p0 24), .ref (a_p0 25), .ref (a_p0 26), .ref (a_p0 27), .ref (a_p0 28), .ref (a_p0 29), .ref (a_p0 30), .ref (a_p0 31), .ref (a_p0 32)], vI T (a_p0 1) 6 s_p0_findings, vI T (a_p0 4) 6 s_p0_lineCount, vJ T (a_p0 7) 270 s_p0_lines, vI T (a_p0 3) 6 s_p0_points]
abbrev r_X7_perp (E : vE) (T : Nat → ClassId) (o_p0 : Nat) (a_p0 : Nat → Nat) (s_p0_newPoints : Int32) (s_p0_newLines : Int32) (s_p0_faultAt : Int64) (s_p0_tries : Int32) (s_p0_things : Int32) (s_p0_goals : Int32) (s_p0_level : Int32) (s_p0_lineCount : Nat → Int32) (s_p0_lines : Nat → Int64) (s_p0_points : Nat → Int32) (Q : Int32 → (Int32) → (Int64) → (Nat → Int32) → Prop) : Prop := vRi E cX7_perp (fun v (u : (Int32) × (Int64) × (Nat → Int32)) => Q v u.1 u.2.1 u.2.2) (fun (u : (Int32) × (Int64) × (Nat → Int32)) => (cl_X7_perp T o_p0 a_p0 u.1 u.2.1 s_p0_newPoints s_p0_newLines s_p0_faultAt s_p0_tries s_p0_things s_p0_goals s_p0_level u.2.2 s_p0_lineCount s_p0_lines s_p0_points))
def w_X7_perp (x_1 : Int32) (x_2 : Int64) (s_p0_finding : Int32) (s_p0_asked : Int64) (s_p0_findings : Nat → Int32) (s_p0_lineCount : Nat → Int32) (s_p0_lines : Nat → Int64) (s_p0_points : Nat → Int32) (Q : Int32 → (Int32) → (Int64) → (Nat → Int32) → Prop) : Prop := (w_X7_looked x_1 s_p0_finding s_p0_findings s_p0_points (fun (r_2 : Int32) (u_2_0 : Int32) (u_2_1 : Nat → Int32) => ((0 ≤ r_2 → (w_X7_allOf x_1 s_p0_points (fun (r_18 : Int64) => (((lg_cmp (x_2 &&& (r_18 ^^^ (-1 : Int64))) (0 : Int64)) = 0 → (w_X7_perpOf x_1 x_2 s_p0_lineCount s_p0_lines s_p0_points (fun (r_36 : Int64) => (w_X7_bits r_36 (fun (r_46 : Int32) => (w_X7_ask r_36 r_46 s_p0_asked (fun (r_49 : Int32) (u_49_0 : Int64) => (Q r_49 u_2_0 u_49_0 u_2_1)))))))) ∧ (¬ (lg_cmp (x_2 &&& (r_18 ^^^ (-1 : Int64))) (0 : Int64)) = 0 → (Q (-1 : Int32) u_2_0 s_p0_asked u_2_1)))))) ∧ (¬ 0 ≤ r_2 → (Q r_2 u_2_0 s_p0_asked u_2_1)))))
-- X7_perp
set_option maxHeartbeats 4000000 in
set_option maxRecDepth 100000 in
theorem c_X7_perp {l : Launch} {D : va_G} {T : Nat → ClassId} {o_p0 : Nat} {a_p0 : Nat → Nat} {s_p0_finding : Int32} {s_p0_asked : Int64} {s_p0_newPoints : Int32} {s_p0_newLines : Int32} {s_p0_faultAt : Int64} {s_p0_tries : Int32} {s_p0_things : Int32} {s_p0_goals : Int32} {s_p0_level : Int32} {s_p0_findings : Nat → Int32} {s_p0_lineCount : Nat → Int32} {s_p0_lines : Nat → Int64} {s_p0_points : Nat → Int32} {x_1 : Int32} {x_2 : Int64} {Q : Int32 → (Int32) → (Int64) → (Nat → Int32) → Prop} (h : w_X7_perp x_1 x_2 s_p0_finding s_p0_asked s_p0_findings s_p0_lineCount s_p0_lines s_p0_points Q) : vCi l D (vT T) yX7_perp wsX7_perp (vr 3 73) [.ref o_p0, .int x_1, .long x_2] (cl_X7_perp T o_p0 a_p0 s_p0_finding s_p0_asked s_p0_newPoints s_p0_newLines s_p0_faultAt s_p0_tries s_p0_things s_p0_goals s_p0_level s_p0_findings s_p0_lineCount s_p0_lines s_p0_points) (fun v (u : (Int32) × (Int64) × (Nat → Int32)) => Q v u.1 u.2.1 u.2.2) (fun (u : (Int32) × (Int64) × (Nat → Int32)) => (cl_X7_perp T o_p0 a_p0 u.1 u.2.1 s_p0_newPoints s_p0_newLines s_p0_faultAt s_p0_tries s_p0_things s_p0_goals s_p0_level u.2.2 s_p0_lineCount s_p0_lines s_p0_points)) := by
  refine vC_i (cc := cX7_perp) (nL := 7) (by decide +kernel) rfl ⟨rfl, rfl⟩ (Nat.le_of_ble_eq_true rfl) rfl ?_
  intro E el eD X r
  unfold w_X7_perp at h
  refine v_aload_n X 0 dX7_perp_0 rfl rfl ?_
  refine v_iload_n X 1 dX7_perp_1 rfl rfl ?_
  refine v_callVi X (As := [.int x_1]) (rest := []) 1 0 (c_X7_looked (l := vl E) (D := vD E) (T := T) (o_p0 := o_p0) (a_p0 := a_p0) (s_p0_finding := s_p0_finding) (s_p0_asked := s_p0_asked) (s_p0_newPoints := s_p0_newPoints) (s_p0_newLines := s_p0_newLines) (s_p0_faultAt := s_p0_faultAt) (s_p0_tries := s_p0_tries) (s_p0_things := s_p0_things) (s_p0_goals := s_p0_goals) (s_p0_level := s_p0_level) (s_p0_findings := s_p0_findings) (s_p0_points := s_p0_points) (x_1 := x_1) h) gX7_perp_X7_looked rfl rfl (by decide +kernel) ⟨Nat.zero_le _, Nat.zero_le _⟩ ⟨rfl, rfl, by decide, by decide⟩ (Nat.le_of_ble_eq_true rfl) rfl rfl (wr := [vI T (a_p0 4) 6 s_p0_lineCount, vJ T (a_p0 7) 270 s_p0_lines]) [0, 1, 4] [2, 3] rfl rfl rfl rfl (by decide) rfl dX7_perp_2 (fun r_2 u h => ?_)
  obtain ⟨u_2_0, u_2_1⟩ := u
  dsimp only at h
  refine v_ws (ws' := (cl_X7_perp T o_p0 a_p0 u_2_0 s_p0_asked s_p0_newPoints s_p0_newLines s_p0_faultAt s_p0_tries s_p0_things s_p0_goals s_p0_level u_2_1 s_p0_lineCount s_p0_lines s_p0_points)) [2, 3, 0, 1, 4] rfl rfl ?_
  refine v_istore X (lv' := [(4, .int r_2), (0, .ref o_p0), (1, .int x_1), (2, .long x_2)]) dX7_perp_5 (by decide) rfl ?_
  refine v_iload X 0 dX7_perp_7 rfl ?_
  refine v_if_ge X (tgt := 15) dX7_perp_9 (by decide) (fun c_9 => ?_) (fun c_9 => ?_)
  · replace h := h.1 c_9
    refine v_lload_n X 3 dX7_perp_15 rfl rfl ?_
    refine v_aload_n X 1 dX7_perp_16 rfl rfl ?_
    refine v_iload_n X 2 dX7_perp_17 rfl rfl ?_
    refine v_callVl X (As := [.int x_1]) (rest := [.long x_2]) 1 0 (c_X7_allOf (l := vl E) (D := vD E) (T := T) (o_p0 := o_p0) (a_p0 := a_p0) (s_p0_finding := u_2_0) (s_p0_asked := s_p0_asked) (s_p0_newPoints := s_p0_newPoints) (s_p0_newLines := s_p0_newLines) (s_p0_faultAt := s_p0_faultAt) (s_p0_tries := s_p0_tries) (s_p0_things := s_p0_things) (s_p0_goals := s_p0_goals) (s_p0_level := s_p0_level) (s_p0_points := s_p0_points) (x_1 := x_1) h) gX7_perp_X7_allOf rfl rfl (by decide +kernel) ⟨Nat.zero_le _, Nat.zero_le _⟩ ⟨rfl, rfl, by decide, by decide⟩ (Nat.le_of_ble_eq_true rfl) rfl rfl (wr := [vI T (a_p0 1) 6 u_2_1, vI T (a_p0 4) 6 s_p0_lineCount, vJ T (a_p0 7) 270 s_p0_lines]) [0, 4] [1, 2, 3] rfl rfl rfl rfl (by decide) rfl dX7_perp_18 (fun r_18 u h => ?_)
    refine v_ws (ws' := (cl_X7_perp T o_p0 a_p0 u_2_0 s_p0_asked s_p0_newPoints s_p0_newLines s_p0_faultAt s_p0_tries s_p0_things s_p0_goals s_p0_level u_2_1 s_p0_lineCount s_p0_lines s_p0_points)) [3, 0, 1, 2, 4] rfl rfl ?_
    refine v_ldc2 X (v := (-1 : Int64)) (List.mem_of_getElem? (i := 1) rfl) dX7_perp_21 ?_
    refine v_lxor X dX7_perp_24 ?_
    refine v_land X dX7_perp_25 ?_
    refine v_lconst X dX7_perp_26 (v := (0 : Int64)) (by decide) ?_
    refine v_lcmp X dX7_perp_27 ?_
    refine v_if_eq X (tgt := 33) dX7_perp_28 (by decide) (fun c_28 => ?_) (fun c_28 => ?_)
    · replace h := h.1 c_28
      refine v_aload_n X 1 dX7_perp_33 rfl rfl ?_
      refine v_iload_n X 2 dX7_perp_34 rfl rfl ?_
      refine v_lload_n X 3 dX7_perp_35 rfl rfl ?_
      refine v_callVl X (As := [.int x_1, .long x_2]) (rest := []) 2 0 (c_X7_perpOf (l := vl E) (D := vD E) (T := T) (o_p0 := o_p0) (a_p0 := a_p0) (s_p0_finding := u_2_0) (s_p0_asked := s_p0_asked) (s_p0_newPoints := s_p0_newPoints) (s_p0_newLines := s_p0_newLines) (s_p0_faultAt := s_p0_faultAt) (s_p0_tries := s_p0_tries) (s_p0_things := s_p0_things) (s_p0_goals := s_p0_goals) (s_p0_level := s_p0_level) (s_p0_lineCount := s_p0_lineCount) (s_p0_lines := s_p0_lines) (s_p0_points := s_p0_points) (x_1 := x_1) (x_2 := x_2) h) gX7_perp_X7_perpOf rfl rfl (by decide +kernel) ⟨Nat.zero_le _, Nat.zero_le _⟩ ⟨rfl, rfl, by decide, by decide⟩ (Nat.le_of_ble_eq_true rfl) rfl rfl (wr := [vI T (a_p0 1) 6 u_2_1]) [0, 2, 3, 4] [1] rfl rfl rfl rfl (by decide) rfl dX7_perp_36 (fun r_36 u h => ?_)
      refine v_ws (ws' := (cl_X7_perp T o_p0 a_p0 u_2_0 s_p0_asked s_p0_newPoints s_p0_newLines s_p0_faultAt s_p0_tries s_p0_things s_p0_goals s_p0_level u_2_1 s_p0_lineCount s_p0_lines s_p0_points)) [1, 0, 2, 3, 4] rfl rfl ?_
      refine v_lstore X (lv' := [(5, .long r_36), (4, .int r_2), (0, .ref o_p0), (1, .int x_1), (2, .long x_2)]) dX7_perp_39 (by decide) rfl ?_
      refine v_aload_n X 2 dX7_perp_41 rfl rfl ?_
      refine v_lload X 0 dX7_perp_42 rfl ?_
      refine v_lload X 0 dX7_perp_44 rfl ?_
      refine v_callSi0 X (As := [.long r_36]) (rest := [.long r_36, .ref o_p0]) 1 (c_X7_bits (l := vl E) (D := vD E) (T := T) (x_0 := r_36) h) gX7_perp_X7_bits rfl rfl (by decide +kernel) ⟨Nat.zero_le _, Nat.zero_le _⟩ ⟨rfl, rfl, by decide, by decide⟩ (Nat.le_of_ble_eq_true rfl) rfl dX7_perp_46 (fun r_46 h => ?_)
      refine v_callVi X (As := [.long r_36, .int r_46]) (rest := []) 2 0 (c_X7_ask (l := vl E) (D := vD E) (T := T) (o_p0 := o_p0) (a_p0 := a_p0) (s_p0_finding := u_2_0) (s_p0_asked := s_p0_asked) (s_p0_newPoints := s_p0_newPoints) (s_p0_newLines := s_p0_newLines) (s_p0_faultAt := s_p0_faultAt) (s_p0_tries := s_p0_tries) (s_p0_things := s_p0_things) (s_p0_goals := s_p0_goals) (s_p0_level := s_p0_level) (x_1 := r_36) (x_3 := r_46) h) gX7_perp_X7_ask rfl rfl (by decide +kernel) ⟨Nat.zero_le _, Nat.zero_le _⟩ ⟨rfl, rfl, by decide, by decide⟩ (Nat.le_of_ble_eq_true rfl) rfl rfl (wr := [vI T (a_p0 1) 6 u_2_1, vI T (a_p0 4) 6 s_p0_lineCount, vJ T (a_p0 7) 270 s_p0_lines, vI T (a_p0 3) 6 s_p0_points]) [0] [1, 2, 3, 4] rfl rfl rfl rfl (by decide) rfl dX7_perp_49 (fun r_49 u h => ?_)
      obtain ⟨u_49_0, rfl⟩ : ∃ z, z = u := ⟨_, rfl⟩
      refine v_ws (ws' := (cl_X7_perp T o_p0 a_p0 u_2_0 u_49_0 s_p0_newPoints s_p0_newLines s_p0_faultAt s_p0_tries s_p0_things s_p0_goals s_p0_level u_2_1 s_p0_lineCount s_p0_lines s_p0_points)) [4, 0, 1, 2, 3] rfl rfl ?_
      exact r _ _ _ (u_2_0, u_49_0, u_2_1) _ dX7_perp_52 h rfl
    · replace h := h.2 c_28
      refine v_iconst X dX7_perp_31 (v := (-1 : Int32)) (by decide) ?_
      exact r _ _ _ (u_2_0, s_p0_asked, u_2_1) _ dX7_perp_32 h rfl
  · replace h := h.2 c_9
    refine v_iload X 0 dX7_perp_12 rfl ?_
    exact r _ _ _ (u_2_0, s_p0_asked, u_2_1) _ dX7_perp_14 h rfl
-- X7_span
abbrev cl_X7_span (T : Nat → ClassId) (o_p0 : Nat) (a_p0 : Nat → Nat) (s_p0_finding : Int32) (s_p0_asked : Int64) (s_p0_newPoints : Int32) (s_p0_newLines : Int32) (s_p0_faultAt : Int64) (s_p0_tries : Int32) (s_p0_things : Int32) (s_p0_goals : Int32) (s_p0_level : Int32) (s_p0_findings : Nat → Int32) (s_p0_lineCount : Nat → Int32) (s_p0_lines : Nat → Int64) (s_p0_points : Nat → Int32) : va_W := [vO o_p0 4 [.int s_p0_finding, .ref (a_p0 1), .long s_p0_asked, .ref (a_p0 3), .ref (a_p0 4), .ref (a_p0 5), .ref (a_p0 6), .ref (a_p0 7), .int s_p0_newPoints, .int s_p0_newLines, .ref (a_p0 10), .ref (a_p0 11), .long s_p0_faultAt, .int s_p0_tries, .int s_p0_things, .int s_p0_goals, .ref (a_p0 16), .ref (a_p0 17), .ref (a_p0 18), .ref (a_p0 19), .ref (a_p0 20), .ref (a_p0 21), .int s_p0_level, .ref (a_p0 23), .ref (a_p0 24), .ref (a_p0 25), .ref (a_p0 26), .ref (a_p0 27), .ref (a_p0 28), .ref (a_p0 29), .ref (a_p0 30), .ref (a_p0 31), .ref (a_p0 32)], vI T (a_p0 1) 6 s_p0_findings, vI T (a_p0 4) 6 s_p0_lineCount, vJ T (a_p0 7) 270 s_p0_lines, vI T (a_p0 3) 6 s_p0_points]
abbrev r_X7_span (E : vE) (T : Nat → ClassId) (o_p0 : Nat) (a_p0 : Nat → Nat) (s_p0_newPoints : Int32) (s_p0_newLines : Int32) (s_p0_faultAt : Int64) (s_p0_tries : Int32) (s_p0_things : Int32) (s_p0_goals : Int32) (s_p0_level : Int32) (s_p0_lineCount : Nat → Int32) (s_p0_lines : Nat → Int64) (s_p0_points : Nat → Int32) (Q : Int32 → (Int32) → (Int64) → (Nat → Int32) → Prop) : Prop := vRi E cX7_span (fun v (u : (Int32) × (Int64) × (Nat → Int32)) => Q v u.1 u.2.1 u.2.2) (fun (u : (Int32) × (Int64) × (Nat → Int32)) => (cl_X7_span T o_p0 a_p0 u.1 u.2.1 s_p0_newPoints s_p0_newLines s_p0_faultAt s_p0_tries s_p0_things s_p0_goals s_p0_level u.2.2 s_p0_lineCount s_p0_lines s_p0_points))
def w_X7_span_33 (s_p0_finding : Int32) (s_p0_asked : Int64) (s_p0_findings : Nat → Int32) (s_p0_lineCount : Nat → Int32) (s_p0_lines : Nat → Int64) (s_p0_points : Nat → Int32) (Q : Int32 → (Int32) → (Int64) → (Nat → Int32) → Prop) : Prop := (w_X7_meets (2 : Int32) s_p0_finding s_p0_findings (fun (r_35 : Int32) (u_35_0 : Int32) (u_35_1 : Nat → Int32) => (Q r_35 u_35_0 s_p0_asked u_35_1)))
def w_X7_span (x_1 : Int32) (x_2 : Int32) (x_3 : Int32) (s_p0_finding : Int32) (s_p0_asked : Int64) (s_p0_findings : Nat → Int32) (s_p0_lineCount : Nat → Int32) (s_p0_lines : Nat → Int64) (s_p0_points : Nat → Int32) (Q : Int32 → (Int32) → (Int64) → (Nat → Int32) → Prop) : Prop := (w_X7_looked x_1 s_p0_finding s_p0_findings s_p0_points (fun (r_2 : Int32) (u_2_0 : Int32) (u_2_1 : Nat → Int32) => ((0 ≤ r_2 → (w_X7_isPoint x_1 x_2 s_p0_points (fun (r_18 : Int32) => ((r_18 = 0 → (w_X7_span_33 u_2_0 s_p0_asked u_2_1 s_p0_lineCount s_p0_lines s_p0_points Q)) ∧ (¬ r_18 = 0 → (w_X7_isPoint x_1 x_3 s_p0_points (fun (r_27 : Int32) => ((¬ r_27 = 0 → (w_X7_nearTo x_1 x_2 s_p0_lineCount s_p0_lines (fun (r_42 : Int64) => (w_X7_has r_42 x_3 (fun (r_46 : Int32) => ((r_46 = 0 → (w_X7_spanOf x_1 x_2 x_3 s_p0_lineCount s_p0_lines s_p0_points (fun (r_59 : Int64) => (w_X7_bits r_59 (fun (r_69 : Int32) => (w_X7_ask r_59 r_69 s_p0_asked (fun (r_72 : Int32) (u_72_0 : Int64) => (Q r_72 u_2_0 u_72_0 u_2_1)))))))) ∧ (¬ r_46 = 0 → (Q (-4 : Int32) u_2_0 s_p0_asked u_2_1)))))))) ∧ (r_27 = 0 → (w_X7_span_33 u_2_0 s_p0_asked u_2_1 s_p0_lineCount s_p0_lines s_p0_points Q)))))))))) ∧ (¬ 0 ≤ r_2 → (Q r_2 u_2_0 s_p0_asked u_2_1)))))
-- X7_span
set_option maxHeartbeats 4000000 in
set_option maxRecDepth 100000 in
theorem k_X7_span_33 {E : vE} {T : Nat → ClassId} {o_p0 : Nat} {a_p0 : Nat → Nat} {s_p0_finding : Int32} {s_p0_asked : Int64} {s_p0_newPoints : Int32} {s_p0_newLines : Int32} {s_p0_faultAt : Int64} {s_p0_tries : Int32} {s_p0_things : Int32} {s_p0_goals : Int32} {s_p0_level : Int32} {s_p0_findings : Nat → Int32} {s_p0_lineCount : Nat → Int32} {s_p0_lines : Nat → Int64} {s_p0_points : Nat → Int32} {Q : Int32 → (Int32) → (Int64) → (Nat → Int32) → Prop} (X : vX E cX7_span 7 RX7 wsX7_span (vT T) (vr 4 96)) (r : r_X7_span E T o_p0 a_p0 s_p0_newPoints s_p0_newLines s_p0_faultAt s_p0_tries s_p0_things s_p0_goals s_p0_level s_p0_lineCount s_p0_lines s_p0_points Q) (h : w_X7_span_33 s_p0_finding s_p0_asked s_p0_findings s_p0_lineCount s_p0_lines s_p0_points Q) : V E 0 0 33 [(0, .ref o_p0)] [] (cl_X7_span T o_p0 a_p0 s_p0_finding s_p0_asked s_p0_newPoints s_p0_newLines s_p0_faultAt s_p0_tries s_p0_things s_p0_goals s_p0_level s_p0_findings s_p0_lineCount s_p0_lines s_p0_points) := by
  unfold w_X7_span_33 at h
  refine v_aload_n X 0 dX7_span_33 rfl rfl ?_
  refine v_iconst X dX7_span_34 (v := (2 : Int32)) (by decide) ?_
  refine v_callVi X (As := [.int (2 : Int32)]) (rest := []) 1 0 (c_X7_meets (l := vl E) (D := vD E) (T := T) (o_p0 := o_p0) (a_p0 := a_p0) (s_p0_finding := s_p0_finding) (s_p0_asked := s_p0_asked) (s_p0_newPoints := s_p0_newPoints) (s_p0_newLines := s_p0_newLines) (s_p0_faultAt := s_p0_faultAt) (s_p0_tries := s_p0_tries) (s_p0_things := s_p0_things) (s_p0_goals := s_p0_goals) (s_p0_level := s_p0_level) (s_p0_findings := s_p0_findings) (x_1 := (2 : Int32)) h) gX7_span_X7_meets rfl rfl (by decide +kernel) ⟨Nat.zero_le _, Nat.zero_le _⟩ ⟨rfl, rfl, by decide, by decide⟩ (Nat.le_of_ble_eq_true rfl) rfl rfl (wr := [vI T (a_p0 4) 6 s_p0_lineCount, vJ T (a_p0 7) 270 s_p0_lines, vI T (a_p0 3) 6 s_p0_points]) [0, 1] [2, 3, 4] rfl rfl rfl rfl (by decide) rfl dX7_span_35 (fun r_35 u h => ?_)
  obtain ⟨u_35_0, u_35_1⟩ := u
  dsimp only at h
  refine v_ws (ws' := (cl_X7_span T o_p0 a_p0 u_35_0 s_p0_asked s_p0_newPoints s_p0_newLines s_p0_faultAt s_p0_tries s_p0_things s_p0_goals s_p0_level u_35_1 s_p0_lineCount s_p0_lines s_p0_points)) [3, 4, 0, 1, 2] rfl rfl ?_
  exact r _ _ _ (u_35_0, s_p0_asked, u_35_1) _ dX7_span_38 h rfl
set_option maxHeartbeats 4000000 in
set_option maxRecDepth 100000 in
theorem c_X7_span {l : Launch} {D : va_G} {T : Nat → ClassId} {o_p0 : Nat} {a_p0 : Nat → Nat} {s_p0_finding : Int32} {s_p0_asked : Int64} {s_p0_newPoints : Int32} {s_p0_newLines : Int32} {s_p0_faultAt : Int64} {s_p0_tries : Int32} {s_p0_things : Int32} {s_p0_goals : Int32} {s_p0_level : Int32} {s_p0_findings : Nat → Int32} {s_p0_lineCount : Nat → Int32} {s_p0_lines : Nat → Int64} {s_p0_points : Nat → Int32} {x_1 : Int32} {x_2 : Int32} {x_3 : Int32} {Q : Int32 → (Int32) → (Int64) → (Nat → Int32) → Prop} (h : w_X7_span x_1 x_2 x_3 s_p0_finding s_p0_asked s_p0_findings s_p0_lineCount s_p0_lines s_p0_points Q) : vCi l D (vT T) yX7_span wsX7_span (vr 4 96) [.ref o_p0, .int x_1, .int x_2, .int x_3] (cl_X7_span T o_p0 a_p0 s_p0_finding s_p0_asked s_p0_newPoints s_p0_newLines s_p0_faultAt s_p0_tries s_p0_things s_p0_goals s_p0_level s_p0_findings s_p0_lineCount s_p0_lines s_p0_points) (fun v (u : (Int32) × (Int64) × (Nat → Int32)) => Q v u.1 u.2.1 u.2.2) (fun (u : (Int32) × (Int64) × (Nat → Int32)) => (cl_X7_span T o_p0 a_p0 u.1 u.2.1 s_p0_newPoints s_p0_newLines s_p0_faultAt s_p0_tries s_p0_things s_p0_goals s_p0_level u.2.2 s_p0_lineCount s_p0_lines s_p0_points)) := by
  refine vC_i (cc := cX7_span) (nL := 7) (by decide +kernel) rfl ⟨rfl, rfl⟩ (Nat.le_of_ble_eq_true rfl) rfl ?_
  intro E el eD X r
  unfold w_X7_span at h
  refine v_aload_n X 0 dX7_span_0 rfl rfl ?_
  refine v_iload_n X 1 dX7_span_1 rfl rfl ?_
  refine v_callVi X (As := [.int x_1]) (rest := []) 1 0 (c_X7_looked (l := vl E) (D := vD E) (T := T) (o_p0 := o_p0) (a_p0 := a_p0) (s_p0_finding := s_p0_finding) (s_p0_asked := s_p0_asked) (s_p0_newPoints := s_p0_newPoints) (s_p0_newLines := s_p0_newLines) (s_p0_faultAt := s_p0_faultAt) (s_p0_tries := s_p0_tries) (s_p0_things := s_p0_things) (s_p0_goals := s_p0_goals) (s_p0_level := s_p0_level) (s_p0_findings := s_p0_findings) (s_p0_points := s_p0_points) (x_1 := x_1) h) gX7_span_X7_looked rfl rfl (by decide +kernel) ⟨Nat.zero_le _, Nat.zero_le _⟩ ⟨rfl, rfl, by decide, by decide⟩ (Nat.le_of_ble_eq_true rfl) rfl rfl (wr := [vI T (a_p0 4) 6 s_p0_lineCount, vJ T (a_p0 7) 270 s_p0_lines]) [0, 1, 4] [2, 3] rfl rfl rfl rfl (by decide) rfl dX7_span_2 (fun r_2 u h => ?_)
  obtain ⟨u_2_0, u_2_1⟩ := u
  dsimp only at h
  refine v_ws (ws' := (cl_X7_span T o_p0 a_p0 u_2_0 s_p0_asked s_p0_newPoints s_p0_newLines s_p0_faultAt s_p0_tries s_p0_things s_p0_goals s_p0_level u_2_1 s_p0_lineCount s_p0_lines s_p0_points)) [2, 3, 0, 1, 4] rfl rfl ?_
  refine v_istore X (lv' := [(4, .int r_2), (0, .ref o_p0), (1, .int x_1), (2, .int x_2), (3, .int x_3)]) dX7_span_5 (by decide) rfl ?_
  refine v_iload X 0 dX7_span_7 rfl ?_
  refine v_if_ge X (tgt := 15) dX7_span_9 (by decide) (fun c_9 => ?_) (fun c_9 => ?_)
  · replace h := h.1 c_9
    refine v_aload_n X 1 dX7_span_15 rfl rfl ?_
    refine v_iload_n X 2 dX7_span_16 rfl rfl ?_
    refine v_iload_n X 3 dX7_span_17 rfl rfl ?_
    refine v_callVi X (As := [.int x_1, .int x_2]) (rest := []) 2 0 (c_X7_isPoint (l := vl E) (D := vD E) (T := T) (o_p0 := o_p0) (a_p0 := a_p0) (s_p0_finding := u_2_0) (s_p0_asked := s_p0_asked) (s_p0_newPoints := s_p0_newPoints) (s_p0_newLines := s_p0_newLines) (s_p0_faultAt := s_p0_faultAt) (s_p0_tries := s_p0_tries) (s_p0_things := s_p0_things) (s_p0_goals := s_p0_goals) (s_p0_level := s_p0_level) (s_p0_points := s_p0_points) (x_1 := x_1) (x_2 := x_2) h) gX7_span_X7_isPoint rfl rfl (by decide +kernel) ⟨Nat.zero_le _, Nat.zero_le _⟩ ⟨rfl, rfl, by decide, by decide⟩ (Nat.le_of_ble_eq_true rfl) rfl rfl (wr := [vI T (a_p0 1) 6 u_2_1, vI T (a_p0 4) 6 s_p0_lineCount, vJ T (a_p0 7) 270 s_p0_lines]) [0, 4] [1, 2, 3] rfl rfl rfl rfl (by decide) rfl dX7_span_18 (fun r_18 u h => ?_)
    refine v_ws (ws' := (cl_X7_span T o_p0 a_p0 u_2_0 s_p0_asked s_p0_newPoints s_p0_newLines s_p0_faultAt s_p0_tries s_p0_things s_p0_goals s_p0_level u_2_1 s_p0_lineCount s_p0_lines s_p0_points)) [3, 0, 1, 2, 4] rfl rfl ?_
    refine v_if_eq X (tgt := 33) dX7_span_21 (by decide) (fun c_21 => ?_) (fun c_21 => ?_)
    · replace h := h.1 c_21
      refine v_lv (lv' := [(0, .ref o_p0)]) [1] rfl ?_
      exact k_X7_span_33 X r h
    · replace h := h.2 c_21
      refine v_aload_n X 1 dX7_span_24 rfl rfl ?_
      refine v_iload_n X 2 dX7_span_25 rfl rfl ?_
      refine v_iload_n X 4 dX7_span_26 rfl rfl ?_
      refine v_callVi X (As := [.int x_1, .int x_3]) (rest := []) 2 0 (c_X7_isPoint (l := vl E) (D := vD E) (T := T) (o_p0 := o_p0) (a_p0 := a_p0) (s_p0_finding := u_2_0) (s_p0_asked := s_p0_asked) (s_p0_newPoints := s_p0_newPoints) (s_p0_newLines := s_p0_newLines) (s_p0_faultAt := s_p0_faultAt) (s_p0_tries := s_p0_tries) (s_p0_things := s_p0_things) (s_p0_goals := s_p0_goals) (s_p0_level := s_p0_level) (s_p0_points := s_p0_points) (x_1 := x_1) (x_2 := x_3) h) gX7_span_X7_isPoint rfl rfl (by decide +kernel) ⟨Nat.zero_le _, Nat.zero_le _⟩ ⟨rfl, rfl, by decide, by decide⟩ (Nat.le_of_ble_eq_true rfl) rfl rfl (wr := [vI T (a_p0 1) 6 u_2_1, vI T (a_p0 4) 6 s_p0_lineCount, vJ T (a_p0 7) 270 s_p0_lines]) [0, 4] [1, 2, 3] rfl rfl rfl rfl (by decide) rfl dX7_span_27 (fun r_27 u h => ?_)
      refine v_ws (ws' := (cl_X7_span T o_p0 a_p0 u_2_0 s_p0_asked s_p0_newPoints s_p0_newLines s_p0_faultAt s_p0_tries s_p0_things s_p0_goals s_p0_level u_2_1 s_p0_lineCount s_p0_lines s_p0_points)) [3, 0, 1, 2, 4] rfl rfl ?_
      refine v_if_ne X (tgt := 39) dX7_span_30 (by decide) (fun c_30 => ?_) (fun c_30 => ?_)
      · replace h := h.1 c_30
        refine v_aload_n X 1 dX7_span_39 rfl rfl ?_
        refine v_iload_n X 2 dX7_span_40 rfl rfl ?_
        refine v_iload_n X 3 dX7_span_41 rfl rfl ?_
        refine v_callVl X (As := [.int x_1, .int x_2]) (rest := []) 2 0 (c_X7_nearTo (l := vl E) (D := vD E) (T := T) (o_p0 := o_p0) (a_p0 := a_p0) (s_p0_finding := u_2_0) (s_p0_asked := s_p0_asked) (s_p0_newPoints := s_p0_newPoints) (s_p0_newLines := s_p0_newLines) (s_p0_faultAt := s_p0_faultAt) (s_p0_tries := s_p0_tries) (s_p0_things := s_p0_things) (s_p0_goals := s_p0_goals) (s_p0_level := s_p0_level) (s_p0_lineCount := s_p0_lineCount) (s_p0_lines := s_p0_lines) (x_1 := x_1) (x_2 := x_2) h) gX7_span_X7_nearTo rfl rfl (by decide +kernel) ⟨Nat.zero_le _, Nat.zero_le _⟩ ⟨rfl, rfl, by decide, by decide⟩ (Nat.le_of_ble_eq_true rfl) rfl rfl (wr := [vI T (a_p0 1) 6 u_2_1, vI T (a_p0 3) 6 s_p0_points]) [0, 2, 3] [1, 4] rfl rfl rfl rfl (by decide) rfl dX7_span_42 (fun r_42 u h => ?_)
        refine v_ws (ws' := (cl_X7_span T o_p0 a_p0 u_2_0 s_p0_asked s_p0_newPoints s_p0_newLines s_p0_faultAt s_p0_tries s_p0_things s_p0_goals s_p0_level u_2_1 s_p0_lineCount s_p0_lines s_p0_points)) [2, 0, 3, 4, 1] rfl rfl ?_
        refine v_iload_n X 4 dX7_span_45 rfl rfl ?_
        refine v_callSi0 X (As := [.long r_42, .int x_3]) (rest := []) 2 (c_X7_has (l := vl E) (D := vD E) (T := T) (x_0 := r_42) (x_2 := x_3) h) gX7_span_X7_has rfl rfl (by decide +kernel) ⟨Nat.zero_le _, Nat.zero_le _⟩ ⟨rfl, rfl, by decide, by decide⟩ (Nat.le_of_ble_eq_true rfl) rfl dX7_span_46 (fun r_46 h => ?_)
        refine v_if_eq X (tgt := 55) dX7_span_49 (by decide) (fun c_49 => ?_) (fun c_49 => ?_)
        · replace h := h.1 c_49
          refine v_aload_n X 1 dX7_span_55 rfl rfl ?_
          refine v_iload_n X 2 dX7_span_56 rfl rfl ?_
          refine v_iload_n X 3 dX7_span_57 rfl rfl ?_
          refine v_iload_n X 4 dX7_span_58 rfl rfl ?_
          refine v_callVl X (As := [.int x_1, .int x_2, .int x_3]) (rest := []) 3 0 (c_X7_spanOf (l := vl E) (D := vD E) (T := T) (o_p0 := o_p0) (a_p0 := a_p0) (s_p0_finding := u_2_0) (s_p0_asked := s_p0_asked) (s_p0_newPoints := s_p0_newPoints) (s_p0_newLines := s_p0_newLines) (s_p0_faultAt := s_p0_faultAt) (s_p0_tries := s_p0_tries) (s_p0_things := s_p0_things) (s_p0_goals := s_p0_goals) (s_p0_level := s_p0_level) (s_p0_lineCount := s_p0_lineCount) (s_p0_lines := s_p0_lines) (s_p0_points := s_p0_points) (x_1 := x_1) (x_2 := x_2) (x_3 := x_3) h) gX7_span_X7_spanOf rfl rfl (by decide +kernel) ⟨Nat.zero_le _, Nat.zero_le _⟩ ⟨rfl, rfl, by decide, by decide⟩ (Nat.le_of_ble_eq_true rfl) rfl rfl (wr := [vI T (a_p0 1) 6 u_2_1]) [0, 2, 3, 4] [1] rfl rfl rfl rfl (by decide) rfl dX7_span_59 (fun r_59 u h => ?_)
          refine v_ws (ws' := (cl_X7_span T o_p0 a_p0 u_2_0 s_p0_asked s_p0_newPoints s_p0_newLines s_p0_faultAt s_p0_tries s_p0_things s_p0_goals s_p0_level u_2_1 s_p0_lineCount s_p0_lines s_p0_points)) [1, 0, 2, 3, 4] rfl rfl ?_
          refine v_lstore X (lv' := [(5, .long r_59), (4, .int r_2), (0, .ref o_p0), (1, .int x_1), (2, .int x_2), (3, .int x_3)]) dX7_span_62 (by decide) rfl ?_
          refine v_aload_n X 2 dX7_span_64 rfl rfl ?_
          refine v_lload X 0 dX7_span_65 rfl ?_
          refine v_lload X 0 dX7_span_67 rfl ?_
          refine v_callSi0 X (As := [.long r_59]) (rest := [.long r_59, .ref o_p0]) 1 (c_X7_bits (l := vl E) (D := vD E) (T := T) (x_0 := r_59) h) gX7_span_X7_bits rfl rfl (by decide +kernel) ⟨Nat.zero_le _, Nat.zero_le _⟩ ⟨rfl, rfl, by decide, by decide⟩ (Nat.le_of_ble_eq_true rfl) rfl dX7_span_69 (fun r_69 h => ?_)
          refine v_callVi X (As := [.long r_59, .int r_69]) (rest := []) 2 0 (c_X7_ask (l := vl E) (D := vD E) (T := T) (o_p0 := o_p0) (a_p0 := a_p0) (s_p0_finding := u_2_0) (s_p0_asked := s_p0_asked) (s_p0_newPoints := s_p0_newPoints) (s_p0_newLines := s_p0_newLines) (s_p0_faultAt := s_p0_faultAt) (s_p0_tries := s_p0_tries) (s_p0_things := s_p0_things) (s_p0_goals := s_p0_goals) (s_p0_level := s_p0_level) (x_1 := r_59) (x_3 := r_69) h) gX7_span_X7_ask rfl rfl (by decide +kernel) ⟨Nat.zero_le _, Nat.zero_le _⟩ ⟨rfl, rfl, by decide, by decide⟩ (Nat.le_of_ble_eq_true rfl) rfl rfl (wr := [vI T (a_p0 1) 6 u_2_1, vI T (a_p0 4) 6 s_p0_lineCount, vJ T (a_p0 7) 270 s_p0_lines, vI T (a_p0 3) 6 s_p0_points]) [0] [1, 2, 3, 4] rfl rfl rfl rfl (by decide) rfl dX7_span_72 (fun r_72 u h => ?_)
          obtain ⟨u_72_0, rfl⟩ : ∃ z, z = u := ⟨_, rfl⟩
          refine v_ws (ws' := (cl_X7_span T o_p0 a_p0 u_2_0 u_72_0 s_p0_newPoints s_p0_newLines s_p0_faultAt s_p0_tries s_p0_things s_p0_goals s_p0_level u_2_1 s_p0_lineCount s_p0_lines s_p0_points)) [4, 0, 1, 2, 3] rfl rfl ?_
          exact r _ _ _ (u_2_0, u_72_0, u_2_1) _ dX7_span_75 h rfl
        · replace h := h.2 c_49
          refine v_bipush X dX7_span_52 (v := (-4 : Int32)) (by decide) ?_
          exact r _ _ _ (u_2_0, s_p0_asked, u_2_1) _ dX7_span_54 h rfl
      · replace h := h.2 c_30
        refine v_lv (lv' := [(0, .ref o_p0)]) [1] rfl ?_
        exact k_X7_span_33 X r h
  · replace h := h.2 c_9
    refine v_iload X 0 dX7_span_12 rfl ?_
    exact r _ _ _ (u_2_0, s_p0_asked, u_2_1) _ dX7_span_14 h rfl
-- X7_regular
abbrev cl_X7_regular (T : Nat → ClassId) (o_p0 : Nat) (a_p0 : Nat → Nat) (s_p0_finding : Int32) (s_p0_asked : Int64) (s_p0_newPoints : Int32) (s_p0_newLines : Int32) (s_p0_faultAt : Int64) (s_p0_tries : Int32) (s_p0_things : Int32) (s_p0_goals : Int32) (s_p0_level : Int32) (s_p0_findings : Nat → Int32) (s_p0_lineCount : Nat → Int32) (s_p0_lines : Nat → Int64) (s_p0_points : Nat → Int32) : va_W := [vO o_p0 4 [.int s_p0_finding, .ref (a_p0 1), .long s_p0_asked, .ref (a_p0 3), .ref (a_p0 4), .ref (a_p0 5), .ref (a_p0 6), .ref (a_p0 7), .int s_p0_newPoints, .int s_p0_newLines, .ref (a_p0 10), .ref (a_p0 11), .long s_p0_faultAt, .int s_p0_tries, .int s_p0_things, .int s_p0_goals, .ref (a_p0 16), .ref (a_p0 17), .ref (a_p0 18), .ref (a_p0 19), .ref (a_p0 20), .ref (a_p0 21), .int s_p0_level, .ref (a_p0 23), .ref (a_p0 24), .ref (a_p0 25), .ref (a_p0 26), .ref (a_p0 27), .ref (a_p0 28), .ref (a_p0 29), .ref (a_p0 30), .ref (a_p0 31), .ref (a_p0 32)], vI T (a_p0 1) 6 s_p0_findings, vI T (a_p0 4) 6 s_p0_lineCount, vJ T (a_p0 7) 270 s_p0_lines, vI T (a_p0 3) 6 s_p0_points]
abbrev r_X7_regular (E : vE) (T : Nat → ClassId) (o_p0 : Nat) (a_p0 : Nat → Nat) (s_p0_asked : Int64) (s_p0_newPoints : Int32) (s_p0_newLines : Int32) (s_p0_faultAt : Int64) (s_p0_tries : Int32) (s_p0_things : Int32) (s_p0_goals : Int32) (s_p0_level : Int32) (s_p0_lineCount : Nat → Int32) (s_p0_lines : Nat → Int64) (s_p0_points : Nat → Int32) (Q : Int32 → (Int32) → (Nat → Int32) → Prop) : Prop := vRi E cX7_regular (fun v (u : (Int32) × (Nat → Int32)) => Q v u.1 u.2) (fun (u : (Int32) × (Nat → Int32)) => (cl_X7_regular T o_p0 a_p0 u.1 s_p0_asked s_p0_newPoints s_p0_newLines s_p0_faultAt s_p0_tries s_p0_things s_p0_goals s_p0_level u.2 s_p0_lineCount s_p0_lines s_p0_points))
def w_X7_regular_61 (t_0 : Int32) (s_p0_finding : Int32) (s_p0_findings : Nat → Int32) (s_p0_lineCount : Nat → Int32) (s_p0_lines : Nat → Int64) (s_p0_points : Nat → Int32) (Q : Int32 → (Int32) → (Nat → Int32) → Prop) : Prop := (Q t_0 s_p0_finding s_p0_findings)
def w_X7_regular (x_1 : Int32) (x_2 : Int32) (s_p0_finding : Int32) (s_p0_findings : Nat → Int32) (s_p0_lineCount : Nat → Int32) (s_p0_lines : Nat → Int64) (s_p0_points : Nat → Int32) (Q : Int32 → (Int32) → (Nat → Int32) → Prop) : Prop := (w_X7_looked x_1 s_p0_finding s_p0_findings s_p0_points (fun (r_2 : Int32) (u_2_0 : Int32) (u_2_1 : Nat → Int32) => ((0 ≤ r_2 → (w_X7_isPoint x_1 x_2 s_p0_points (fun (r_15 : Int32) => ((¬ r_15 = 0 → (w_X7_orderOf x_1 (0 : Int32) s_p0_lineCount s_p0_lines s_p0_points (fun (r_30 : Int32) => ((0 ≤ r_30 → (w_X7_isRegular x_1 x_2 r_30 s_p0_lineCount s_p0_lines s_p0_points (fun (r_50 : Int32) => ((r_50 = 0 → (w_X7_regular_61 (0 : Int32) u_2_0 u_2_1 s_p0_lineCount s_p0_lines s_p0_points Q)) ∧ (¬ r_50 = 0 → (w_X7_regular_61 (1 : Int32) u_2_0 u_2_1 s_p0_lineCount s_p0_lines s_p0_points Q)))))) ∧ (¬ 0 ≤ r_30 → (w_X7_regular_61 (-4 : Int32) u_2_0 u_2_1 s_p0_lineCount s_p0_lines s_p0_points Q)))))) ∧ (r_15 = 0 → (w_X7_meets (2 : Int32) u_2_0 u_2_1 (fun (r_23 : Int32) (u_23_0 : Int32) (u_23_1 : Nat → Int32) => (Q r_23 u_23_0 u_23_1)))))))) ∧ (¬ 0 ≤ r_2 → (Q r_2 u_2_0 u_2_1)))))
-- X7_regular
set_option maxHeartbeats 4000000 in
set_option maxRecDepth 100000 in
theorem k_X7_regular_61 {E : vE} {T : Nat → ClassId} {o_p0 : Nat} {a_p0 : Nat → Nat} {s_p0_finding : Int32} {s_p0_asked : Int64} {s_p0_newPoints : Int32} {s_p0_newLines : Int32} {s_p0_faultAt : Int64} {s_p0_tries : Int32} {s_p0_things : Int32} {s_p0_goals : Int32} {s_p0_level : Int32} {s_p0_findings : Nat → Int32} {s_p0_lineCount : Nat → Int32} {s_p0_lines : Nat → Int64} {s_p0_points : Nat → Int32} {t_0 : Int32} {Q : Int32 → (Int32) → (Nat → Int32) → Prop} (X : vX E cX7_regular 5 RX7 wsX7_regular (vT T) (vr 5 123)) (r : r_X7_regular E T o_p0 a_p0 s_p0_asked s_p0_newPoints s_p0_newLines s_p0_faultAt s_p0_tries s_p0_things s_p0_goals s_p0_level s_p0_lineCount s_p0_lines s_p0_points Q) (h : w_X7_regular_61 t_0 s_p0_finding s_p0_findings s_p0_lineCount s_p0_lines s_p0_points Q) : V E 0 0 61 [] [.int t_0] (cl_X7_regular T o_p0 a_p0 s_p0_finding s_p0_asked s_p0_newPoints s_p0_newLines s_p0_faultAt s_p0_tries s_p0_things s_p0_goals s_p0_level s_p0_findings s_p0_lineCount s_p0_lines s_p0_points) := by
  unfold w_X7_regular_61 at h
  exact r _ _ _ (s_p0_finding, s_p0_findings) _ dX7_regular_61 h rfl
set_option maxHeartbeats 4000000 in
set_option maxRecDepth 100000 in
theorem c_X7_regular {l : Launch} {D : va_G} {T : Nat → ClassId} {o_p0 : Nat} {a_p0 : Nat → Nat} {s_p0_finding : Int32} {s_p0_asked : Int64} {s_p0_newPoints : Int32} {s_p0_newLines : Int32} {s_p0_faultAt : Int64} {s_p0_tries : Int32} {s_p0_things : Int32} {s_p0_goals : Int32} {s_p0_level : Int32} {s_p0_findings : Nat → Int32} {s_p0_lineCount : Nat → Int32} {s_p0_lines : Nat → Int64} {s_p0_points : Nat → Int32} {x_1 : Int32} {x_2 : Int32} {Q : Int32 → (Int32) → (Nat → Int32) → Prop} (h : w_X7_regular x_1 x_2 s_p0_finding s_p0_findings s_p0_lineCount s_p0_lines s_p0_points Q) : vCi l D (vT T) yX7_regular wsX7_regular (vr 5 123) [.ref o_p0, .int x_1, .int x_2] (cl_X7_regular T o_p0 a_p0 s_p0_finding s_p0_asked s_p0_newPoints s_p0_newLines s_p0_faultAt s_p0_tries s_p0_things s_p0_goals s_p0_level s_p0_findings s_p0_lineCount s_p0_lines s_p0_points) (fun v (u : (Int32) × (Nat → Int32)) => Q v u.1 u.2) (fun (u : (Int32) × (Nat → Int32)) => (cl_X7_regular T o_p0 a_p0 u.1 s_p0_asked s_p0_newPoints s_p0_newLines s_p0_faultAt s_p0_tries s_p0_things s_p0_goals s_p0_level u.2 s_p0_lineCount s_p0_lines s_p0_points)) := by
  refine vC_i (cc := cX7_regular) (nL := 5) (by decide +kernel) rfl ⟨rfl, rfl⟩ (Nat.le_of_ble_eq_true rfl) rfl ?_
  intro E el eD X r
  unfold w_X7_regular at h
  refine v_aload_n X 0 dX7_regular_0 rfl rfl ?_
  refine v_iload_n X 1 dX7_regular_1 rfl rfl ?_
  refine v_callVi X (As := [.int x_1]) (rest := []) 1 0 (c_X7_looked (l := vl E) (D := vD E) (T := T) (o_p0 := o_p0) (a_p0 := a_p0) (s_p0_finding := s_p0_finding) (s_p0_asked := s_p0_asked) (s_p0_newPoints := s_p0_newPoints) (s_p0_newLines := s_p0_newLines) (s_p0_faultAt := s_p0_faultAt) (s_p0_tries := s_p0_tries) (s_p0_things := s_p0_things) (s_p0_goals := s_p0_goals) (s_p0_level := s_p0_level) (s_p0_findings := s_p0_findings) (s_p0_points := s_p0_points) (x_1 := x_1) h) gX7_regular_X7_looked rfl rfl (by decide +kernel) ⟨Nat.zero_le _, Nat.zero_le _⟩ ⟨rfl, rfl, by decide, by decide⟩ (Nat.le_of_ble_eq_true rfl) rfl rfl (wr := [vI T (a_p0 4) 6 s_p0_lineCount, vJ T (a_p0 7) 270 s_p0_lines]) [0, 1, 4] [2, 3] rfl rfl rfl rfl (by decide) rfl dX7_regular_2 (fun r_2 u h => ?_)
  obtain ⟨u_2_0, u_2_1⟩ := u
  dsimp only at h
  refine v_ws (ws' := (cl_X7_regular T o_p0 a_p0 u_2_0 s_p0_asked s_p0_newPoints s_p0_newLines s_p0_faultAt s_p0_tries s_p0_things s_p0_goals s_p0_level u_2_1 s_p0_lineCount s_p0_lines s_p0_points)) [2, 3, 0, 1, 4] rfl rfl ?_
  refine v_istore_n X (lv' := [(3, .int r_2), (0, .ref o_p0), (1, .int x_1), (2, .int x_2)]) dX7_regular_5 rfl (by decide) rfl ?_
  refine v_iload_n X 0 dX7_regular_6 rfl rfl ?_
  refine v_if_ge X (tgt := 12) dX7_regular_7 (by decide) (fun c_7 => ?_) (fun c_7 => ?_)
  · replace h := h.1 c_7
    refine v_aload_n X 1 dX7_regular_12 rfl rfl ?_
    refine v_iload_n X 2 dX7_regular_13 rfl rfl ?_
    refine v_iload_n X 3 dX7_regular_14 rfl rfl ?_
    refine v_callVi X (As := [.int x_1, .int x_2]) (rest := []) 2 0 (c_X7_isPoint (l := vl E) (D := vD E) (T := T) (o_p0 := o_p0) (a_p0 := a_p0) (s_p0_finding := u_2_0) (s_p0_asked := s_p0_asked) (s_p0_newPoints := s_p0_newPoints) (s_p0_newLines := s_p0_newLines) (s_p0_faultAt := s_p0_faultAt) (s_p0_tries := s_p0_tries) (s_p0_things := s_p0_things) (s_p0_goals := s_p0_goals) (s_p0_level := s_p0_level) (s_p0_points := s_p0_points) (x_1 := x_1) (x_2 := x_2) h) gX7_regular_X7_isPoint rfl rfl (by decide +kernel) ⟨Nat.zero_le _, Nat.zero_le _⟩ ⟨rfl, rfl, by decide, by decide⟩ (Nat.le_of_ble_eq_true rfl) rfl rfl (wr := [vI T (a_p0 1) 6 u_2_1, vI T (a_p0 4) 6 s_p0_lineCount, vJ T (a_p0 7) 270 s_p0_lines]) [0, 4] [1, 2, 3] rfl rfl rfl rfl (by decide) rfl dX7_regular_15 (fun r_15 u h => ?_)
    refine v_ws (ws' := (cl_X7_regular T o_p0 a_p0 u_2_0 s_p0_asked s_p0_newPoints s_p0_newLines s_p0_faultAt s_p0_tries s_p0_things s_p0_goals s_p0_level u_2_1 s_p0_lineCount s_p0_lines s_p0_points)) [3, 0, 1, 2, 4] rfl rfl ?_
    refine v_if_ne X (tgt := 27) dX7_regular_18 (by decide) (fun c_18 => ?_) (fun c_18 => ?_)
    · replace h := h.1 c_18
      refine v_aload_n X 1 dX7_regular_27 rfl rfl ?_
      refine v_iload_n X 2 dX7_regular_28 rfl rfl ?_
      refine v_iconst X dX7_regular_29 (v := (0 : Int32)) (by decide) ?_
      refine v_callVi X (As := [.int x_1, .int (0 : Int32)]) (rest := []) 2 0 (c_X7_orderOf (l := vl E) (D := vD E) (T := T) (o_p0 := o_p0) (a_p0 := a_p0) (s_p0_finding := u_2_0) (s_p0_asked := s_p0_asked) (s_p0_newPoints := s_p0_newPoints) (s_p0_newLines := s_p0_newLines) (s_p0_faultAt := s_p0_faultAt) (s_p0_tries := s_p0_tries) (s_p0_things := s_p0_things) (s_p0_goals := s_p0_goals) (s_p0_level := s_p0_level) (s_p0_lineCount := s_p0_lineCount) (s_p0_lines := s_p0_lines) (s_p0_points := s_p0_points) (x_1 := x_1) (x_2 := (0 : Int32)) h) gX7_regular_X7_orderOf rfl rfl (by decide +kernel) ⟨Nat.zero_le _, Nat.zero_le _⟩ ⟨rfl, rfl, by decide, by decide⟩ (Nat.le_of_ble_eq_true rfl) rfl rfl (wr := [vI T (a_p0 1) 6 u_2_1]) [0, 2, 3, 4] [1] rfl rfl rfl rfl (by decide) rfl dX7_regular_30 (fun r_30 u h => ?_)
      refine v_ws (ws' := (cl_X7_regular T o_p0 a_p0 u_2_0 s_p0_asked s_p0_newPoints s_p0_newLines s_p0_faultAt s_p0_tries s_p0_things s_p0_goals s_p0_level u_2_1 s_p0_lineCount s_p0_lines s_p0_points)) [1, 0, 2, 3, 4] rfl rfl ?_
      refine v_istore X (lv' := [(4, .int r_30), (3, .int r_2), (0, .ref o_p0), (1, .int x_1), (2, .int x_2)]) dX7_regular_33 (by decide) rfl ?_
      refine v_iload X 0 dX7_regular_35 rfl ?_
      refine v_if_ge X (tgt := 45) dX7_regular_37 (by decide) (fun c_37 => ?_) (fun c_37 => ?_)
      · replace h := h.1 c_37
        refine v_aload_n X 2 dX7_regular_45 rfl rfl ?_
        refine v_iload_n X 3 dX7_regular_46 rfl rfl ?_
        refine v_iload_n X 4 dX7_regular_47 rfl rfl ?_
        refine v_iload X 0 dX7_regular_48 rfl ?_
        refine v_callVi X (As := [.int x_1, .int x_2, .int r_30]) (rest := []) 3 0 (c_X7_isRegular (l := vl E) (D := vD E) (T := T) (o_p0 := o_p0) (a_p0 := a_p0) (s_p0_finding := u_2_0) (s_p0_asked := s_p0_asked) (s_p0_newPoints := s_p0_newPoints) (s_p0_newLines := s_p0_newLines) (s_p0_faultAt := s_p0_faultAt) (s_p0_tries := s_p0_tries) (s_p0_things := s_p0_things) (s_p0_goals := s_p0_goals) (s_p0_level := s_p0_level) (s_p0_lineCount := s_p0_lineCount) (s_p0_lines := s_p0_lines) (s_p0_points := s_p0_points) (x_1 := x_1) (x_2 := x_2) (x_3 := r_30) h) gX7_regular_X7_isRegular rfl rfl (by decide +kernel) ⟨Nat.zero_le _, Nat.zero_le _⟩ ⟨rfl, rfl, by decide, by decide⟩ (Nat.le_of_ble_eq_true rfl) rfl rfl (wr := [vI T (a_p0 1) 6 u_2_1]) [0, 2, 3, 4] [1] rfl rfl rfl rfl (by decide) rfl dX7_regular_50 (fun r_50 u h => ?_)
        refine v_ws (ws' := (cl_X7_regular T o_p0 a_p0 u_2_0 s_p0_asked s_p0_newPoints s_p0_newLines s_p0_faultAt s_p0_tries s_p0_things s_p0_goals s_p0_level u_2_1 s_p0_lineCount s_p0_lines s_p0_points)) [1, 0, 2, 3, 4] rfl rfl ?_
        refine v_if_eq X (tgt := 60) dX7_regular_53 (by decide) (fun c_53 => ?_) (fun c_53 => ?_)
        · replace h := h.1 c_53
          refine v_iconst X dX7_regular_60 (v := (0 : Int32)) (by decide) ?_
          refine v_lv (lv' := []) [] rfl ?_
          exact k_X7_regular_61 X r h
        · replace h := h.2 c_53
          refine v_iconst X dX7_regular_56 (v := (1 : Int32)) (by decide) ?_
          refine v_goto X (tgt := 61) dX7_regular_57 (by decide) ?_
          refine v_lv (lv' := []) [] rfl ?_
          exact k_X7_regular_61 X r h
      · replace h := h.2 c_37
        refine v_bipush X dX7_regular_40 (v := (-4 : Int32)) (by decide) ?_
        refine v_goto X (tgt := 61) dX7_regular_42 (by decide) ?_
        refine v_lv (lv' := []) [] rfl ?_
        exact k_X7_regular_61 X r h
    · replace h := h.2 c_18
      refine v_aload_n X 1 dX7_regular_21 rfl rfl ?_
      refine v_iconst X dX7_regular_22 (v := (2 : Int32)) (by decide) ?_
      refine v_callVi X (As := [.int (2 : Int32)]) (rest := []) 1 0 (c_X7_meets (l := vl E) (D := vD E) (T := T) (o_p0 := o_p0) (a_p0 := a_p0) (s_p0_finding := u_2_0) (s_p0_asked := s_p0_asked) (s_p0_newPoints := s_p0_newPoints) (s_p0_newLines := s_p0_newLines) (s_p0_faultAt := s_p0_faultAt) (s_p0_tries := s_p0_tries) (s_p0_things := s_p0_things) (s_p0_goals := s_p0_goals) (s_p0_level := s_p0_level) (s_p0_findings := u_2_1) (x_1 := (2 : Int32)) h) gX7_regular_X7_meets rfl rfl (by decide +kernel) ⟨Nat.zero_le _, Nat.zero_le _⟩ ⟨rfl, rfl, by decide, by decide⟩ (Nat.le_of_ble_eq_true rfl) rfl rfl (wr := [vI T (a_p0 4) 6 s_p0_lineCount, vJ T (a_p0 7) 270 s_p0_lines, vI T (a_p0 3) 6 s_p0_points]) [0, 1] [2, 3, 4] rfl rfl rfl rfl (by decide) rfl dX7_regular_23 (fun r_23 u h => ?_)
      obtain ⟨u_23_0, u_23_1⟩ := u
      dsimp only at h
      refine v_ws (ws' := (cl_X7_regular T o_p0 a_p0 u_23_0 s_p0_asked s_p0_newPoints s_p0_newLines s_p0_faultAt s_p0_tries s_p0_things s_p0_goals s_p0_level u_23_1 s_p0_lineCount s_p0_lines s_p0_points)) [3, 4, 0, 1, 2] rfl rfl ?_
      exact r _ _ _ (u_23_0, u_23_1) _ dX7_regular_26 h rfl
  · replace h := h.2 c_7
    refine v_iload_n X 0 dX7_regular_10 rfl rfl ?_
    exact r _ _ _ (u_2_0, u_2_1) _ dX7_regular_11 h rfl
-- X7_centres
abbrev cl_X7_centres (T : Nat → ClassId) (o_p0 : Nat) (a_p0 : Nat → Nat) (s_p0_finding : Int32) (s_p0_asked : Int64) (s_p0_newPoints : Int32) (s_p0_newLines : Int32) (s_p0_faultAt : Int64) (s_p0_tries : Int32) (s_p0_things : Int32) (s_p0_goals : Int32) (s_p0_level : Int32) (s_p0_findings : Nat → Int32) (s_p0_lineCount : Nat → Int32) (s_p0_lines : Nat → Int64) (s_p0_points : Nat → Int32) : va_W := [vO o_p0 4 [.int s_p0_finding, .ref (a_p0 1), .long s_p0_asked, .ref (a_p0 3), .ref (a_p0 4), .ref (a_p0 5), .ref (a_p0 6), .ref (a_p0 7), .int s_p0_newPoints, .int s_p0_newLines, .ref (a_p0 10), .ref (a_p0 11), .long s_p0_faultAt, .int s_p0_tries, .int s_p0_things, .int s_p0_goals, .ref (a_p0 16), .ref (a_p0 17), .ref (a_p0 18), .ref (a_p0 19), .ref (a_p0 20), .ref (a_p0 21), .int s_p0_level, .ref (a_p0 23), .ref (a_p0 24), .ref (a_p0 25), .ref (a_p0 26), .ref (a_p0 27), .ref (a_p0 28), .ref (a_p0 29), .ref (a_p0 30), .ref (a_p0 31), .ref (a_p0 32)], vI T (a_p0 1) 6 s_p0_findings, vI T (a_p0 4) 6 s_p0_lineCount, vJ T (a_p0 7) 270 s_p0_lines, vI T (a_p0 3) 6 s_p0_points]
abbrev r_X7_centres (E : vE) (T : Nat → ClassId) (o_p0 : Nat) (a_p0 : Nat → Nat) (s_p0_asked : Int64) (s_p0_newPoints : Int32) (s_p0_newLines : Int32) (s_p0_faultAt : Int64) (s_p0_tries : Int32) (s_p0_things : Int32) (s_p0_goals : Int32) (s_p0_level : Int32) (s_p0_lineCount : Nat → Int32) (s_p0_lines : Nat → Int64) (s_p0_points : Nat → Int32) (Q : Int32 → (Int32) → (Nat → Int32) → Prop) : Prop := vRi E cX7_centres (fun v (u : (Int32) × (Nat → Int32)) => Q v u.1 u.2) (fun (u : (Int32) × (Nat → Int32)) => (cl_X7_centres T o_p0 a_p0 u.1 s_p0_asked s_p0_newPoints s_p0_newLines s_p0_faultAt s_p0_tries s_p0_things s_p0_goals s_p0_level u.2 s_p0_lineCount s_p0_lines s_p0_points))
def w_X7_centres_43 (s_p0_finding : Int32) (s_p0_findings : Nat → Int32) (s_p0_lineCount : Nat → Int32) (s_p0_lines : Nat → Int64) (s_p0_points : Nat → Int32) (Q : Int32 → (Int32) → (Nat → Int32) → Prop) : Prop := (w_X7_meets (2 : Int32) s_p0_finding s_p0_findings (fun (r_45 : Int32) (u_45_0 : Int32) (u_45_1 : Nat → Int32) => (Q r_45 u_45_0 u_45_1)))
def w_X7_centres (x_1 : Int32) (x_2 : Int32) (x_3 : Int32) (x_4 : Int32) (s_p0_finding : Int32) (s_p0_findings : Nat → Int32) (s_p0_lineCount : Nat → Int32) (s_p0_lines : Nat → Int64) (s_p0_points : Nat → Int32) (Q : Int32 → (Int32) → (Nat → Int32) → Prop) : Prop := (w_X7_looked x_1 s_p0_finding s_p0_findings s_p0_points (fun (r_2 : Int32) (u_2_0 : Int32) (u_2_1 : Nat → Int32) => ((0 ≤ r_2 → (w_X7_isPoint x_1 x_2 s_p0_points (fun (r_18 : Int32) => ((r_18 = 0 → (w_X7_centres_43 u_2_0 u_2_1 s_p0_lineCount s_p0_lines s_p0_points Q)) ∧ (¬ r_18 = 0 → (w_X7_isPoint x_1 x_3 s_p0_points (fun (r_27 : Int32) => ((r_27 = 0 → (w_X7_centres_43 u_2_0 u_2_1 s_p0_lineCount s_p0_lines s_p0_points Q)) ∧ (¬ r_27 = 0 → (w_X7_isPoint x_1 x_4 s_p0_points (fun (r_37 : Int32) => ((¬ r_37 = 0 → (w_X7_perpOf x_1 (((vshl (1 : Int64) x_2) ||| (vshl (1 : Int64) x_3)) ||| (vshl (1 : Int64) x_4)) s_p0_lineCount s_p0_lines s_p0_points (fun (r_63 : Int64) => (w_X7_bits r_63 (fun (r_66 : Int32) => (Q r_66 u_2_0 u_2_1)))))) ∧ (r_37 = 0 → (w_X7_centres_43 u_2_0 u_2_1 s_p0_lineCount s_p0_lines s_p0_points Q)))))))))))))) ∧ (¬ 0 ≤ r_2 → (Q r_2 u_2_0 u_2_1)))))
-- X7_centres
set_option maxHeartbeats 4000000 in
set_option maxRecDepth 100000 in
theorem k_X7_centres_43 {E : vE} {T : Nat → ClassId} {o_p0 : Nat} {a_p0 : Nat → Nat} {s_p0_finding : Int32} {s_p0_asked : Int64} {s_p0_newPoints : Int32} {s_p0_newLines : Int32} {s_p0_faultAt : Int64} {s_p0_tries : Int32} {s_p0_things : Int32} {s_p0_goals : Int32} {s_p0_level : Int32} {s_p0_findings : Nat → Int32} {s_p0_lineCount : Nat → Int32} {s_p0_lines : Nat → Int64} {s_p0_points : Nat → Int32} {Q : Int32 → (Int32) → (Nat → Int32) → Prop} (X : vX E cX7_centres 6 RX7 wsX7_centres (vT T) (vr 3 73)) (r : r_X7_centres E T o_p0 a_p0 s_p0_asked s_p0_newPoints s_p0_newLines s_p0_faultAt s_p0_tries s_p0_things s_p0_goals s_p0_level s_p0_lineCount s_p0_lines s_p0_points Q) (h : w_X7_centres_43 s_p0_finding s_p0_findings s_p0_lineCount s_p0_lines s_p0_points Q) : V E 0 0 43 [(0, .ref o_p0)] [] (cl_X7_centres T o_p0 a_p0 s_p0_finding s_p0_asked s_p0_newPoints s_p0_newLines s_p0_faultAt s_p0_tries s_p0_things s_p0_goals s_p0_level s_p0_findings s_p0_lineCount s_p0_lines s_p0_points) := by
  unfold w_X7_centres_43 at h
  refine v_aload_n X 0 dX7_centres_43 rfl rfl ?_
  refine v_iconst X dX7_centres_44 (v := (2 : Int32)) (by decide) ?_
  refine v_callVi X (As := [.int (2 : Int32)]) (rest := []) 1 0 (c_X7_meets (l := vl E) (D := vD E) (T := T) (o_p0 := o_p0) (a_p0 := a_p0) (s_p0_finding := s_p0_finding) (s_p0_asked := s_p0_asked) (s_p0_newPoints := s_p0_newPoints) (s_p0_newLines := s_p0_newLines) (s_p0_faultAt := s_p0_faultAt) (s_p0_tries := s_p0_tries) (s_p0_things := s_p0_things) (s_p0_goals := s_p0_goals) (s_p0_level := s_p0_level) (s_p0_findings := s_p0_findings) (x_1 := (2 : Int32)) h) gX7_centres_X7_meets rfl rfl (by decide +kernel) ⟨Nat.zero_le _, Nat.zero_le _⟩ ⟨rfl, rfl, by decide, by decide⟩ (Nat.le_of_ble_eq_true rfl) rfl rfl (wr := [vI T (a_p0 4) 6 s_p0_lineCount, vJ T (a_p0 7) 270 s_p0_lines, vI T (a_p0 3) 6 s_p0_points]) [0, 1] [2, 3, 4] rfl rfl rfl rfl (by decide) rfl dX7_centres_45 (fun r_45 u h => ?_)
  obtain ⟨u_45_0, u_45_1⟩ := u
  dsimp only at h
  refine v_ws (ws' := (cl_X7_centres T o_p0 a_p0 u_45_0 s_p0_asked s_p0_newPoints s_p0_newLines s_p0_faultAt s_p0_tries s_p0_things s_p0_goals s_p0_level u_45_1 s_p0_lineCount s_p0_lines s_p0_points)) [3, 4, 0, 1, 2] rfl rfl ?_
  exact r _ _ _ (u_45_0, u_45_1) _ dX7_centres_48 h rfl
set_option maxHeartbeats 4000000 in
set_option maxRecDepth 100000 in
theorem c_X7_centres {l : Launch} {D : va_G} {T : Nat → ClassId} {o_p0 : Nat} {a_p0 : Nat → Nat} {s_p0_finding : Int32} {s_p0_asked : Int64} {s_p0_newPoints : Int32} {s_p0_newLines : Int32} {s_p0_faultAt : Int64} {s_p0_tries : Int32} {s_p0_things : Int32} {s_p0_goals : Int32} {s_p0_level : Int32} {s_p0_findings : Nat → Int32} {s_p0_lineCount : Nat → Int32} {s_p0_lines : Nat → Int64} {s_p0_points : Nat → Int32} {x_1 : Int32} {x_2 : Int32} {x_3 : Int32} {x_4 : Int32} {Q : Int32 → (Int32) → (Nat → Int32) → Prop} (h : w_X7_centres x_1 x_2 x_3 x_4 s_p0_finding s_p0_findings s_p0_lineCount s_p0_lines s_p0_points Q) : vCi l D (vT T) yX7_centres wsX7_centres (vr 3 73) [.ref o_p0, .int x_1, .int x_2, .int x_3, .int x_4] (cl_X7_centres T o_p0 a_p0 s_p0_finding s_p0_asked s_p0_newPoints s_p0_newLines s_p0_faultAt s_p0_tries s_p0_things s_p0_goals s_p0_level s_p0_findings s_p0_lineCount s_p0_lines s_p0_points) (fun v (u : (Int32) × (Nat → Int32)) => Q v u.1 u.2) (fun (u : (Int32) × (Nat → Int32)) => (cl_X7_centres T o_p0 a_p0 u.1 s_p0_asked s_p0_newPoints s_p0_newLines s_p0_faultAt s_p0_tries s_p0_things s_p0_goals s_p0_level u.2 s_p0_lineCount s_p0_lines s_p0_points)) := by
  refine vC_i (cc := cX7_centres) (nL := 6) (by decide +kernel) rfl ⟨rfl, rfl⟩ (Nat.le_of_ble_eq_true rfl) rfl ?_
  intro E el eD X r
  unfold w_X7_centres at h
  refine v_aload_n X 0 dX7_centres_0 rfl rfl ?_
  refine v_iload_n X 1 dX7_centres_1 rfl rfl ?_
  refine v_callVi X (As := [.int x_1]) (rest := []) 1 0 (c_X7_looked (l := vl E) (D := vD E) (T := T) (o_p0 := o_p0) (a_p0 := a_p0) (s_p0_finding := s_p0_finding) (s_p0_asked := s_p0_asked) (s_p0_newPoints := s_p0_newPoints) (s_p0_newLines := s_p0_newLines) (s_p0_faultAt := s_p0_faultAt) (s_p0_tries := s_p0_tries) (s_p0_things := s_p0_things) (s_p0_goals := s_p0_goals) (s_p0_level := s_p0_level) (s_p0_findings := s_p0_findings) (s_p0_points := s_p0_points) (x_1 := x_1) h) gX7_centres_X7_looked rfl rfl (by decide +kernel) ⟨Nat.zero_le _, Nat.zero_le _⟩ ⟨rfl, rfl, by decide, by decide⟩ (Nat.le_of_ble_eq_true rfl) rfl rfl (wr := [vI T (a_p0 4) 6 s_p0_lineCount, vJ T (a_p0 7) 270 s_p0_lines]) [0, 1, 4] [2, 3] rfl rfl rfl rfl (by decide) rfl dX7_centres_2 (fun r_2 u h => ?_)
  obtain ⟨u_2_0, u_2_1⟩ := u
  dsimp only at h
  refine v_ws (ws' := (cl_X7_centres T o_p0 a_p0 u_2_0 s_p0_asked s_p0_newPoints s_p0_newLines s_p0_faultAt s_p0_tries s_p0_things s_p0_goals s_p0_level u_2_1 s_p0_lineCount s_p0_lines s_p0_points)) [2, 3, 0, 1, 4] rfl rfl ?_
  refine v_istore X (lv' := [(5, .int r_2), (0, .ref o_p0), (1, .int x_1), (2, .int x_2), (3, .int x_3), (4, .int x_4)]) dX7_centres_5 (by decide) rfl ?_
  refine v_iload X 0 dX7_centres_7 rfl ?_
  refine v_if_ge X (tgt := 15) dX7_centres_9 (by decide) (fun c_9 => ?_) (fun c_9 => ?_)
  · replace h := h.1 c_9
    refine v_aload_n X 1 dX7_centres_15 rfl rfl ?_
    refine v_iload_n X 2 dX7_centres_16 rfl rfl ?_
    refine v_iload_n X 3 dX7_centres_17 rfl rfl ?_
    refine v_callVi X (As := [.int x_1, .int x_2]) (rest := []) 2 0 (c_X7_isPoint (l := vl E) (D := vD E) (T := T) (o_p0 := o_p0) (a_p0 := a_p0) (s_p0_finding := u_2_0) (s_p0_asked := s_p0_asked) (s_p0_newPoints := s_p0_newPoints) (s_p0_newLines := s_p0_newLines) (s_p0_faultAt := s_p0_faultAt) (s_p0_tries := s_p0_tries) (s_p0_things := s_p0_things) (s_p0_goals := s_p0_goals) (s_p0_level := s_p0_level) (s_p0_points := s_p0_points) (x_1 := x_1) (x_2 := x_2) h) gX7_centres_X7_isPoint rfl rfl (by decide +kernel) ⟨Nat.zero_le _, Nat.zero_le _⟩ ⟨rfl, rfl, by decide, by decide⟩ (Nat.le_of_ble_eq_true rfl) rfl rfl (wr := [vI T (a_p0 1) 6 u_2_1, vI T (a_p0 4) 6 s_p0_lineCount, vJ T (a_p0 7) 270 s_p0_lines]) [0, 4] [1, 2, 3] rfl rfl rfl rfl (by decide) rfl dX7_centres_18 (fun r_18 u h => ?_)
    refine v_ws (ws' := (cl_X7_centres T o_p0 a_p0 u_2_0 s_p0_asked s_p0_newPoints s_p0_newLines s_p0_faultAt s_p0_tries s_p0_things s_p0_goals s_p0_level u_2_1 s_p0_lineCount s_p0_lines s_p0_points)) [3, 0, 1, 2, 4] rfl rfl ?_
    refine v_if_eq X (tgt := 43) dX7_centres_21 (by decide) (fun c_21 => ?_) (fun c_21 => ?_)
    · replace h := h.1 c_21
      refine v_lv (lv' := [(0, .ref o_p0)]) [1] rfl ?_
      exact k_X7_centres_43 X r h
    · replace h := h.2 c_21
      refine v_aload_n X 1 dX7_centres_24 rfl rfl ?_
      refine v_iload_n X 2 dX7_centres_25 rfl rfl ?_
      refine v_iload_n X 4 dX7_centres_26 rfl rfl ?_
      refine v_callVi X (As := [.int x_1, .int x_3]) (rest := []) 2 0 (c_X7_isPoint (l := vl E) (D := vD E) (T := T) (o_p0 := o_p0) (a_p0 := a_p0) (s_p0_finding := u_2_0) (s_p0_asked := s_p0_asked) (s_p0_newPoints := s_p0_newPoints) (s_p0_newLines := s_p0_newLines) (s_p0_faultAt := s_p0_faultAt) (s_p0_tries := s_p0_tries) (s_p0_things := s_p0_things) (s_p0_goals := s_p0_goals) (s_p0_level := s_p0_level) (s_p0_points := s_p0_points) (x_1 := x_1) (x_2 := x_3) h) gX7_centres_X7_isPoint rfl rfl (by decide +kernel) ⟨Nat.zero_le _, Nat.zero_le _⟩ ⟨rfl, rfl, by decide, by decide⟩ (Nat.le_of_ble_eq_true rfl) rfl rfl (wr := [vI T (a_p0 1) 6 u_2_1, vI T (a_p0 4) 6 s_p0_lineCount, vJ T (a_p0 7) 270 s_p0_lines]) [0, 4] [1, 2, 3] rfl rfl rfl rfl (by decide) rfl dX7_centres_27 (fun r_27 u h => ?_)
      refine v_ws (ws' := (cl_X7_centres T o_p0 a_p0 u_2_0 s_p0_asked s_p0_newPoints s_p0_newLines s_p0_faultAt s_p0_tries s_p0_things s_p0_goals s_p0_level u_2_1 s_p0_lineCount s_p0_lines s_p0_points)) [3, 0, 1, 2, 4] rfl rfl ?_
      refine v_if_eq X (tgt := 43) dX7_centres_30 (by decide) (fun c_30 => ?_) (fun c_30 => ?_)
      · replace h := h.1 c_30
        refine v_lv (lv' := [(0, .ref o_p0)]) [1] rfl ?_
        exact k_X7_centres_43 X r h
      · replace h := h.2 c_30
        refine v_aload_n X 1 dX7_centres_33 rfl rfl ?_
        refine v_iload_n X 2 dX7_centres_34 rfl rfl ?_
        refine v_iload X 5 dX7_centres_35 rfl ?_
        refine v_callVi X (As := [.int x_1, .int x_4]) (rest := []) 2 0 (c_X7_isPoint (l := vl E) (D := vD E) (T := T) (o_p0 := o_p0) (a_p0 := a_p0) (s_p0_finding := u_2_0) (s_p0_asked := s_p0_asked) (s_p0_newPoints := s_p0_newPoints) (s_p0_newLines := s_p0_newLines) (s_p0_faultAt := s_p0_faultAt) (s_p0_tries := s_p0_tries) (s_p0_things := s_p0_things) (s_p0_goals := s_p0_goals) (s_p0_level := s_p0_level) (s_p0_points := s_p0_points) (x_1 := x_1) (x_2 := x_4) h) gX7_centres_X7_isPoint rfl rfl (by decide +kernel) ⟨Nat.zero_le _, Nat.zero_le _⟩ ⟨rfl, rfl, by decide, by decide⟩ (Nat.le_of_ble_eq_true rfl) rfl rfl (wr := [vI T (a_p0 1) 6 u_2_1, vI T (a_p0 4) 6 s_p0_lineCount, vJ T (a_p0 7) 270 s_p0_lines]) [0, 4] [1, 2, 3] rfl rfl rfl rfl (by decide) rfl dX7_centres_37 (fun r_37 u h => ?_)
        refine v_ws (ws' := (cl_X7_centres T o_p0 a_p0 u_2_0 s_p0_asked s_p0_newPoints s_p0_newLines s_p0_faultAt s_p0_tries s_p0_things s_p0_goals s_p0_level u_2_1 s_p0_lineCount s_p0_lines s_p0_points)) [3, 0, 1, 2, 4] rfl rfl ?_
        refine v_if_ne X (tgt := 49) dX7_centres_40 (by decide) (fun c_40 => ?_) (fun c_40 => ?_)
        · replace h := h.1 c_40
          refine v_aload_n X 1 dX7_centres_49 rfl rfl ?_
          refine v_iload_n X 2 dX7_centres_50 rfl rfl ?_
          refine v_lconst X dX7_centres_51 (v := (1 : Int64)) (by decide) ?_
          refine v_iload_n X 3 dX7_centres_52 rfl rfl ?_
          refine v_lshl X dX7_centres_53 ?_
          refine v_lconst X dX7_centres_54 (v := (1 : Int64)) (by decide) ?_
          refine v_iload_n X 4 dX7_centres_55 rfl rfl ?_
          refine v_lshl X dX7_centres_56 ?_
          refine v_lor X dX7_centres_57 ?_
          refine v_lconst X dX7_centres_58 (v := (1 : Int64)) (by decide) ?_
          refine v_iload X 5 dX7_centres_59 rfl ?_
          refine v_lshl X dX7_centres_61 ?_
          refine v_lor X dX7_centres_62 ?_
          refine v_callVl X (As := [.int x_1, .long (((vshl (1 : Int64) x_2) ||| (vshl (1 : Int64) x_3)) ||| (vshl (1 : Int64) x_4))]) (rest := []) 2 0 (c_X7_perpOf (l := vl E) (D := vD E) (T := T) (o_p0 := o_p0) (a_p0 := a_p0) (s_p0_finding := u_2_0) (s_p0_asked := s_p0_asked) (s_p0_newPoints := s_p0_newPoints) (s_p0_newLines := s_p0_newLines) (s_p0_faultAt := s_p0_faultAt) (s_p0_tries := s_p0_tries) (s_p0_things := s_p0_things) (s_p0_goals := s_p0_goals) (s_p0_level := s_p0_level) (s_p0_lineCount := s_p0_lineCount) (s_p0_lines := s_p0_lines) (s_p0_points := s_p0_points) (x_1 := x_1) (x_2 := (((vshl (1 : Int64) x_2) ||| (vshl (1 : Int64) x_3)) ||| (vshl (1 : Int64) x_4))) h) gX7_centres_X7_perpOf rfl rfl (by decide +kernel) ⟨Nat.zero_le _, Nat.zero_le _⟩ ⟨rfl, rfl, by decide, by decide⟩ (Nat.le_of_ble_eq_true rfl) rfl rfl (wr := [vI T (a_p0 1) 6 u_2_1]) [0, 2, 3, 4] [1] rfl rfl rfl rfl (by decide) rfl dX7_centres_63 (fun r_63 u h => ?_)
          refine v_ws (ws' := (cl_X7_centres T o_p0 a_p0 u_2_0 s_p0_asked s_p0_newPoints s_p0_newLines s_p0_faultAt s_p0_tries s_p0_things s_p0_goals s_p0_level u_2_1 s_p0_lineCount s_p0_lines s_p0_points)) [1, 0, 2, 3, 4] rfl rfl ?_
          refine v_callSi0 X (As := [.long r_63]) (rest := []) 1 (c_X7_bits (l := vl E) (D := vD E) (T := T) (x_0 := r_63) h) gX7_centres_X7_bits rfl rfl (by decide +kernel) ⟨Nat.zero_le _, Nat.zero_le _⟩ ⟨rfl, rfl, by decide, by decide⟩ (Nat.le_of_ble_eq_true rfl) rfl dX7_centres_66 (fun r_66 h => ?_)
          exact r _ _ _ (u_2_0, u_2_1) _ dX7_centres_69 h rfl
        · replace h := h.2 c_40
          refine v_lv (lv' := [(0, .ref o_p0)]) [1] rfl ?_
          exact k_X7_centres_43 X r h
  · replace h := h.2 c_9
    refine v_iload X 0 dX7_centres_12 rfl ?_
    exact r _ _ _ (u_2_0, u_2_1) _ dX7_centres_14 h rfl
-- X7_meets_
abbrev cl_X7_meets_ (T : Nat → ClassId) (o_p0 : Nat) (a_p0 : Nat → Nat) (s_p0_finding : Int32) (s_p0_asked : Int64) (s_p0_newPoints : Int32) (s_p0_newLines : Int32) (s_p0_faultAt : Int64) (s_p0_tries : Int32) (s_p0_things : Int32) (s_p0_goals : Int32) (s_p0_level : Int32) (s_p0_findings : Nat → Int32) (s_p0_lineCount : Nat → Int32) (s_p0_lines : Nat → Int64) (s_p0_points : Nat → Int32) : va_W := [vO o_p0 4 [.int s_p0_finding, .ref (a_p0 1), .long s_p0_asked, .ref (a_p0 3), .ref (a_p0 4), .ref (a_p0 5), .ref (a_p0 6), .ref (a_p0 7), .int s_p0_newPoints, .int s_p0_newLines, .ref (a_p0 10), .ref (a_p0 11), .long s_p0_faultAt, .int s_p0_tries, .int s_p0_things, .int s_p0_goals, .ref (a_p0 16), .ref (a_p0 17), .ref (a_p0 18), .ref (a_p0 19), .ref (a_p0 20), .ref (a_p0 21), .int s_p0_level, .ref (a_p0 23), .ref (a_p0 24), .ref (a_p0 25), .ref (a_p0 26), .ref (a_p0 27), .ref (a_p0 28), .ref (a_p0 29), .ref (a_p0 30), .ref (a_p0 31), .ref (a_p0 32)], vI T (a_p0 1) 6 s_p0_findings, vI T (a_p0 4) 6 s_p0_lineCount, vJ T (a_p0 7) 270 s_p0_lines, vI T (a_p0 3) 6 s_p0_points]
abbrev r_X7_meets_ (E : vE) (T : Nat → ClassId) (o_p0 : Nat) (a_p0 : Nat → Nat) (s_p0_asked : Int64) (s_p0_newPoints : Int32) (s_p0_newLines : Int32) (s_p0_faultAt : Int64) (s_p0_tries : Int32) (s_p0_things : Int32) (s_p0_goals : Int32) (s_p0_level : Int32) (s_p0_lineCount : Nat → Int32) (s_p0_lines : Nat → Int64) (s_p0_points : Nat → Int32) (Q : Int32 → (Int32) → (Nat → Int32) → Prop) : Prop := vRi E cX7_meets_ (fun v (u : (Int32) × (Nat → Int32)) => Q v u.1 u.2) (fun (u : (Int32) × (Nat → Int32)) => (cl_X7_meets_ T o_p0 a_p0 u.1 s_p0_asked s_p0_newPoints s_p0_newLines s_p0_faultAt s_p0_tries s_p0_things s_p0_goals s_p0_level u.2 s_p0_lineCount s_p0_lines s_p0_points))
def w_X7_meets__127 (t_0 : Int32) (s_p0_finding : Int32) (s_p0_findings : Nat → Int32) (s_p0_lineCount : Nat → Int32) (s_p0_lines : Nat → Int64) (s_p0_points : Nat → Int32) (Q : Int32 → (Int32) → (Nat → Int32) → Prop) : Prop := (Q t_0 s_p0_finding s_p0_findings)
def w_X7_meets__104 (x_1 : Int32) (x_2 : Int64) (x_4 : Int32) (x_7 : Int32) (t_0 : Int32) (s_p0_finding : Int32) (s_p0_findings : Nat → Int32) (s_p0_lineCount : Nat → Int32) (s_p0_lines : Nat → Int64) (s_p0_points : Nat → Int32) (K_40 : (Int32) → (Int32) → Prop) (Q : Int32 → (Int32) → (Nat → Int32) → Prop) : Prop := (K_40 t_0 (x_7 + (1 : Int32)))
def w_X7_meets__102 (x_1 : Int32) (x_2 : Int64) (x_4 : Int32) (x_6 : Int32) (x_7 : Int32) (s_p0_finding : Int32) (s_p0_findings : Nat → Int32) (s_p0_lineCount : Nat → Int32) (s_p0_lines : Nat → Int64) (s_p0_points : Nat → Int32) (K_40 : (Int32) → (Int32) → Prop) (Q : Int32 → (Int32) → (Nat → Int32) → Prop) : Prop := (w_X7_meets__104 x_1 x_2 x_4 x_7 x_6 s_p0_finding s_p0_findings s_p0_lineCount s_p0_lines s_p0_points K_40 Q)
def w_X7_meets__97 (x_1 : Int32) (x_2 : Int64) (x_4 : Int32) (x_7 : Int32) (x_8 : Int32) (s_p0_finding : Int32) (s_p0_findings : Nat → Int32) (s_p0_lineCount : Nat → Int32) (s_p0_lines : Nat → Int64) (s_p0_points : Nat → Int32) (K_40 : (Int32) → (Int32) → Prop) (Q : Int32 → (Int32) → (Nat → Int32) → Prop) : Prop := (w_X7_meets__104 x_1 x_2 x_4 x_7 x_8 s_p0_finding s_p0_findings s_p0_lineCount s_p0_lines s_p0_points K_40 Q)
def w_X7_meets__40s (x_1 : Int32) (x_2 : Int64) (x_4 : Int32) (s_p0_finding : Int32) (s_p0_findings : Nat → Int32) (s_p0_lineCount : Nat → Int32) (s_p0_lines : Nat → Int64) (s_p0_points : Nat → Int32) (Q : Int32 → (Int32) → (Nat → Int32) → Prop) (K_40 : (Int32) → (Int32) → Prop) (x_6 : Int32) (x_7 : Int32) : Prop := (vp_in x_1 6 ∧ (((s_p0_lineCount (x_1).toNatClampNeg) ≤ x_7 → ((0 ≤ x_6 → (w_X7_meets__127 x_6 s_p0_finding s_p0_findings s_p0_lineCount s_p0_lines s_p0_points Q)) ∧ (¬ 0 ≤ x_6 → (w_X7_meets (4 : Int32) s_p0_finding s_p0_findings (fun (r_119 : Int32) (u_119_0 : Int32) (u_119_1 : Nat → Int32) => (w_X7_meets__127 r_119 u_119_0 u_119_1 s_p0_lineCount s_p0_lines s_p0_points Q)))))) ∧ (¬ (s_p0_lineCount (x_1).toNatClampNeg) ≤ x_7 → (vp_in (((45 : Int32) * x_1) + x_7) 270 ∧ (w_X7_bits ((s_p0_lines ((((45 : Int32) * x_1) + x_7)).toNatClampNeg) &&& x_2) (fun (r_65 : Int32) => ((x_6 < 0 → (w_X7_meets__97 x_1 x_2 x_4 x_7 r_65 s_p0_finding s_p0_findings s_p0_lineCount s_p0_lines s_p0_points K_40 Q)) ∧ (¬ x_6 < 0 → ((x_4 = 0 → ((x_6 ≤ r_65 → (w_X7_meets__102 x_1 x_2 x_4 x_6 x_7 s_p0_finding s_p0_findings s_p0_lineCount s_p0_lines s_p0_points K_40 Q)) ∧ (¬ x_6 ≤ r_65 → (w_X7_meets__97 x_1 x_2 x_4 x_7 r_65 s_p0_finding s_p0_findings s_p0_lineCount s_p0_lines s_p0_points K_40 Q)))) ∧ (¬ x_4 = 0 → ((r_65 ≤ x_6 → (w_X7_meets__102 x_1 x_2 x_4 x_6 x_7 s_p0_finding s_p0_findings s_p0_lineCount s_p0_lines s_p0_points K_40 Q)) ∧ (¬ r_65 ≤ x_6 → (w_X7_meets__97 x_1 x_2 x_4 x_7 r_65 s_p0_finding s_p0_findings s_p0_lineCount s_p0_lines s_p0_points K_40 Q)))))))))))))
def w_X7_meets__40 (x_1 : Int32) (x_2 : Int64) (x_4 : Int32) (s_p0_finding : Int32) (s_p0_findings : Nat → Int32) (s_p0_lineCount : Nat → Int32) (s_p0_lines : Nat → Int64) (s_p0_points : Nat → Int32) (Q : Int32 → (Int32) → (Nat → Int32) → Prop) : Nat → (Int32) → (Int32) → Prop
  | 0 => fun _ _ => False
  | n_ + 1 => w_X7_meets__40s x_1 x_2 x_4 s_p0_finding s_p0_findings s_p0_lineCount s_p0_lines s_p0_points Q (w_X7_meets__40 x_1 x_2 x_4 s_p0_finding s_p0_findings s_p0_lineCount s_p0_lines s_p0_points Q n_)
def w_X7_meets_ (x_1 : Int32) (x_2 : Int64) (x_4 : Int32) (s_p0_finding : Int32) (s_p0_findings : Nat → Int32) (s_p0_lineCount : Nat → Int32) (s_p0_lines : Nat → Int64) (s_p0_points : Nat → Int32) (Q : Int32 → (Int32) → (Nat → Int32) → Prop) : Prop := (w_X7_looked x_1 s_p0_finding s_p0_findings s_p0_points (fun (r_2 : Int32) (u_2_0 : Int32) (u_2_1 : Nat → Int32) => ((0 ≤ r_2 → (w_X7_allOf x_1 s_p0_points (fun (r_18 : Int64) => (((lg_cmp (x_2 &&& (r_18 ^^^ (-1 : Int64))) (0 : Int64)) = 0 → (∃ n_, w_X7_meets__40 x_1 x_2 x_4 u_2_0 u_2_1 s_p0_lineCount s_p0_lines s_p0_points Q n_ (-9 : Int32) (0 : Int32))) ∧ (¬ (lg_cmp (x_2 &&& (r_18 ^^^ (-1 : Int64))) (0 : Int64)) = 0 → (Q (-1 : Int32) u_2_0 u_2_1)))))) ∧ (¬ 0 ≤ r_2 → (Q r_2 u_2_0 u_2_1)))))
-- X7_meets_
theorem iX7_meets__X7 : ∀ w ∈ wsX70, w ∈ wsX7_meets_ := by decide +kernel
set_option maxHeartbeats 4000000 in
set_option maxRecDepth 100000 in
theorem k_X7_meets__127 {E : vE} {T : Nat → ClassId} {o_p0 : Nat} {a_p0 : Nat → Nat} {s_p0_finding : Int32} {s_p0_asked : Int64} {s_p0_newPoints : Int32} {s_p0_newLines : Int32} {s_p0_faultAt : Int64} {s_p0_tries : Int32} {s_p0_things : Int32} {s_p0_goals : Int32} {s_p0_level : Int32} {s_p0_findings : Nat → Int32} {s_p0_lineCount : Nat → Int32} {s_p0_lines : Nat → Int64} {s_p0_points : Nat → Int32} {t_0 : Int32} {Q : Int32 → (Int32) → (Nat → Int32) → Prop} (X : vX E cX7_meets_ 9 RX7 wsX7_meets_ (vT T) (vr 3 63)) (r : r_X7_meets_ E T o_p0 a_p0 s_p0_asked s_p0_newPoints s_p0_newLines s_p0_faultAt s_p0_tries s_p0_things s_p0_goals s_p0_level s_p0_lineCount s_p0_lines s_p0_points Q) (h : w_X7_meets__127 t_0 s_p0_finding s_p0_findings s_p0_lineCount s_p0_lines s_p0_points Q) : V E 0 0 127 [] [.int t_0] (cl_X7_meets_ T o_p0 a_p0 s_p0_finding s_p0_asked s_p0_newPoints s_p0_newLines s_p0_faultAt s_p0_tries s_p0_things s_p0_goals s_p0_level s_p0_findings s_p0_lineCount s_p0_lines s_p0_points) := by
  unfold w_X7_meets__127 at h
  exact r _ _ _ (s_p0_finding, s_p0_findings) _ dX7_meets__127 h rfl
set_option maxHeartbeats 4000000 in
set_option maxRecDepth 100000 in
theorem k_X7_meets__104 {E : vE} {T : Nat → ClassId} {o_p0 : Nat} {a_p0 : Nat → Nat} {s_p0_finding : Int32} {s_p0_asked : Int64} {s_p0_newPoints : Int32} {s_p0_newLines : Int32} {s_p0_faultAt : Int64} {s_p0_tries : Int32} {s_p0_things : Int32} {s_p0_goals : Int32} {s_p0_level : Int32} {s_p0_findings : Nat → Int32} {s_p0_lineCount : Nat → Int32} {s_p0_lines : Nat → Int64} {s_p0_points : Nat → Int32} {x_1 : Int32} {x_2 : Int64} {x_4 : Int32} {x_7 : Int32} {t_0 : Int32} {K_40 : (Int32) → (Int32) → Prop} {Q : Int32 → (Int32) → (Nat → Int32) → Prop} (X : vX E cX7_meets_ 9 RX7 wsX7_meets_ (vT T) (vr 3 63)) (r : r_X7_meets_ E T o_p0 a_p0 s_p0_asked s_p0_newPoints s_p0_newLines s_p0_faultAt s_p0_tries s_p0_things s_p0_goals s_p0_level s_p0_lineCount s_p0_lines s_p0_points Q) (hK_40 : ∀ (x_6' : Int32) (x_7' : Int32), K_40 x_6' x_7' → V E 0 0 40 [(0, .ref o_p0), (1, .int x_1), (2, .long x_2), (4, .int x_4), (6, .int x_6'), (7, .int x_7')] [] (cl_X7_meets_ T o_p0 a_p0 s_p0_finding s_p0_asked s_p0_newPoints s_p0_newLines s_p0_faultAt s_p0_tries s_p0_things s_p0_goals s_p0_level s_p0_findings s_p0_lineCount s_p0_lines s_p0_points)) (h : w_X7_meets__104 x_1 x_2 x_4 x_7 t_0 s_p0_finding s_p0_findings s_p0_lineCount s_p0_lines s_p0_points K_40 Q) : V E 0 0 104 [(0, .ref o_p0), (1, .int x_1), (2, .long x_2), (4, .int x_4), (7, .int x_7)] [.int t_0] (cl_X7_meets_ T o_p0 a_p0 s_p0_finding s_p0_asked s_p0_newPoints s_p0_newLines s_p0_faultAt s_p0_tries s_p0_things s_p0_goals s_p0_level s_p0_findings s_p0_lineCount s_p0_lines s_p0_points) := by
  unfold w_X7_meets__104 at h
  refine v_istore X (lv' := [(6, .int t_0), (0, .ref o_p0), (1, .int x_1), (2, .long x_2), (4, .int x_4), (7, .int x_7)]) dX7_meets__104 (by decide) rfl ?_
  refine v_iinc X (v := (x_7 + (1 : Int32))) (lv' := [(7, .int (x_7 + (1 : Int32))), (6, .int t_0), (0, .ref o_p0), (1, .int x_1), (2, .long x_2), (4, .int x_4)]) 5 dX7_meets__106 rfl rfl (by decide) rfl ?_
  refine v_goto X (tgt := 40) dX7_meets__109 (by decide) ?_
  refine v_lv (lv' := [(0, .ref o_p0), (1, .int x_1), (2, .long x_2), (4, .int x_4), (6, .int t_0), (7, .int (x_7 + (1 : Int32)))]) [2, 3, 4, 5, 1, 0] rfl ?_
  exact hK_40 _ _ h
set_option maxHeartbeats 4000000 in
set_option maxRecDepth 100000 in
theorem k_X7_meets__102 {E : vE} {T : Nat → ClassId} {o_p0 : Nat} {a_p0 : Nat → Nat} {s_p0_finding : Int32} {s_p0_asked : Int64} {s_p0_newPoints : Int32} {s_p0_newLines : Int32} {s_p0_faultAt : Int64} {s_p0_tries : Int32} {s_p0_things : Int32} {s_p0_goals : Int32} {s_p0_level : Int32} {s_p0_findings : Nat → Int32} {s_p0_lineCount : Nat → Int32} {s_p0_lines : Nat → Int64} {s_p0_points : Nat → Int32} {x_1 : Int32} {x_2 : Int64} {x_4 : Int32} {x_6 : Int32} {x_7 : Int32} {K_40 : (Int32) → (Int32) → Prop} {Q : Int32 → (Int32) → (Nat → Int32) → Prop} (X : vX E cX7_meets_ 9 RX7 wsX7_meets_ (vT T) (vr 3 63)) (r : r_X7_meets_ E T o_p0 a_p0 s_p0_asked s_p0_newPoints s_p0_newLines s_p0_faultAt s_p0_tries s_p0_things s_p0_goals s_p0_level s_p0_lineCount s_p0_lines s_p0_points Q) (hK_40 : ∀ (x_6' : Int32) (x_7' : Int32), K_40 x_6' x_7' → V E 0 0 40 [(0, .ref o_p0), (1, .int x_1), (2, .long x_2), (4, .int x_4), (6, .int x_6'), (7, .int x_7')] [] (cl_X7_meets_ T o_p0 a_p0 s_p0_finding s_p0_asked s_p0_newPoints s_p0_newLines s_p0_faultAt s_p0_tries s_p0_things s_p0_goals s_p0_level s_p0_findings s_p0_lineCount s_p0_lines s_p0_points)) (h : w_X7_meets__102 x_1 x_2 x_4 x_6 x_7 s_p0_finding s_p0_findings s_p0_lineCount s_p0_lines s_p0_points K_40 Q) : V E 0 0 102 [(0, .ref o_p0), (1, .int x_1), (2, .long x_2), (4, .int x_4), (6, .int x_6), (7, .int x_7)] [] (cl_X7_meets_ T o_p0 a_p0 s_p0_finding s_p0_asked s_p0_newPoints s_p0_newLines s_p0_faultAt s_p0_tries s_p0_things s_p0_goals s_p0_level s_p0_findings s_p0_lineCount s_p0_lines s_p0_points) := by
  unfold w_X7_meets__102 at h
  refine v_iload X 4 dX7_meets__102 rfl ?_
  refine v_lv (lv' := [(0, .ref o_p0), (1, .int x_1), (2, .long x_2), (4, .int x_4), (7, .int x_7)]) [0, 1, 2, 3, 5] rfl ?_
  exact k_X7_meets__104 X r hK_40 h
set_option maxHeartbeats 4000000 in
set_option maxRecDepth 100000 in
theorem k_X7_meets__97 {E : vE} {T : Nat → ClassId} {o_p0 : Nat} {a_p0 : Nat → Nat} {s_p0_finding : Int32} {s_p0_asked : Int64} {s_p0_newPoints : Int32} {s_p0_newLines : Int32} {s_p0_faultAt : Int64} {s_p0_tries : Int32} {s_p0_things : Int32} {s_p0_goals : Int32} {s_p0_level : Int32} {s_p0_findings : Nat → Int32} {s_p0_lineCount : Nat → Int32} {s_p0_lines : Nat → Int64} {s_p0_points : Nat → Int32} {x_1 : Int32} {x_2 : Int64} {x_4 : Int32} {x_7 : Int32} {x_8 : Int32} {K_40 : (Int32) → (Int32) → Prop} {Q : Int32 → (Int32) → (Nat → Int32) → Prop} (X : vX E cX7_meets_ 9 RX7 wsX7_meets_ (vT T) (vr 3 63)) (r : r_X7_meets_ E T o_p0 a_p0 s_p0_asked s_p0_newPoints s_p0_newLines s_p0_faultAt s_p0_tries s_p0_things s_p0_goals s_p0_level s_p0_lineCount s_p0_lines s_p0_points Q) (hK_40 : ∀ (x_6' : Int32) (x_7' : Int32), K_40 x_6' x_7' → V E 0 0 40 [(0, .ref o_p0), (1, .int x_1), (2, .long x_2), (4, .int x_4), (6, .int x_6'), (7, .int x_7')] [] (cl_X7_meets_ T o_p0 a_p0 s_p0_finding s_p0_asked s_p0_newPoints s_p0_newLines s_p0_faultAt s_p0_tries s_p0_things s_p0_goals s_p0_level s_p0_findings s_p0_lineCount s_p0_lines s_p0_points)) (h : w_X7_meets__97 x_1 x_2 x_4 x_7 x_8 s_p0_finding s_p0_findings s_p0_lineCount s_p0_lines s_p0_points K_40 Q) : V E 0 0 97 [(0, .ref o_p0), (1, .int x_1), (2, .long x_2), (4, .int x_4), (7, .int x_7), (8, .int x_8)] [] (cl_X7_meets_ T o_p0 a_p0 s_p0_finding s_p0_asked s_p0_newPoints s_p0_newLines s_p0_faultAt s_p0_tries s_p0_things s_p0_goals s_p0_level s_p0_findings s_p0_lineCount s_p0_lines s_p0_points) := by
  unfold w_X7_meets__97 at h
  refine v_iload X 5 dX7_meets__97 rfl ?_
  refine v_goto X (tgt := 104) dX7_meets__99 (by decide) ?_
  refine v_lv (lv' := [(0, .ref o_p0), (1, .int x_1), (2, .long x_2), (4, .int x_4), (7, .int x_7)]) [0, 1, 2, 3, 4] rfl ?_
  exact k_X7_meets__104 X r hK_40 h
set_option maxHeartbeats 4000000 in
set_option maxRecDepth 100000 in
theorem k_X7_meets__40 {E : vE} {T : Nat → ClassId} {o_p0 : Nat} {a_p0 : Nat → Nat} {s_p0_finding : Int32} {s_p0_asked : Int64} {s_p0_newPoints : Int32} {s_p0_newLines : Int32} {s_p0_faultAt : Int64} {s_p0_tries : Int32} {s_p0_things : Int32} {s_p0_goals : Int32} {s_p0_level : Int32} {s_p0_findings : Nat → Int32} {s_p0_lineCount : Nat → Int32} {s_p0_lines : Nat → Int64} {s_p0_points : Nat → Int32} {x_1 : Int32} {x_2 : Int64} {x_4 : Int32} {Q : Int32 → (Int32) → (Nat → Int32) → Prop} (X : vX E cX7_meets_ 9 RX7 wsX7_meets_ (vT T) (vr 3 63)) (r : r_X7_meets_ E T o_p0 a_p0 s_p0_asked s_p0_newPoints s_p0_newLines s_p0_faultAt s_p0_tries s_p0_things s_p0_goals s_p0_level s_p0_lineCount s_p0_lines s_p0_points Q) : ∀ (n_ : Nat) (x_6 : Int32) (x_7 : Int32), w_X7_meets__40 x_1 x_2 x_4 s_p0_finding s_p0_findings s_p0_lineCount s_p0_lines s_p0_points Q n_ x_6 x_7 → V E 0 0 40 [(0, .ref o_p0), (1, .int x_1), (2, .long x_2), (4, .int x_4), (6, .int x_6), (7, .int x_7)] [] (cl_X7_meets_ T o_p0 a_p0 s_p0_finding s_p0_asked s_p0_newPoints s_p0_newLines s_p0_faultAt s_p0_tries s_p0_things s_p0_goals s_p0_level s_p0_findings s_p0_lineCount s_p0_lines s_p0_points) := by
  intro n_
  induction n_ with
  | zero => intro x_6 x_7 h; exact h.elim
  | succ n_ hK_40 =>
    intro x_6 x_7 h
    replace h : w_X7_meets__40s x_1 x_2 x_4 s_p0_finding s_p0_findings s_p0_lineCount s_p0_lines s_p0_points Q (w_X7_meets__40 x_1 x_2 x_4 s_p0_finding s_p0_findings s_p0_lineCount s_p0_lines s_p0_points Q n_) x_6 x_7 := h
    unfold w_X7_meets__40s at h
    refine v_iload X 5 dX7_meets__40 rfl ?_
    refine v_aload_n X 0 dX7_meets__42 rfl rfl ?_
    refine v_get X 0 4 (F := TX7) (N := 33) iX7_meets__X7 rfl rfl (by decide) (List.mem_of_getElem? (i := 2) rfl) rfl rfl dX7_meets__43 ?_
    refine v_iload_n X 1 dX7_meets__46 rfl rfl ?_
    refine v_iald X 2 0 rfl rfl h.1 dX7_meets__47 ?_
    replace h := h.2
    refine v_icmp_ge X (tgt := 112) dX7_meets__48 (by decide) (fun c_48 => ?_) (fun c_48 => ?_)
    · replace h := h.1 c_48
      refine v_iload X 4 dX7_meets__112 rfl ?_
      refine v_if_ge X (tgt := 125) dX7_meets__114 (by decide) (fun c_114 => ?_) (fun c_114 => ?_)
      · replace h := h.1 c_114
        refine v_iload X 4 dX7_meets__125 rfl ?_
        refine v_lv (lv' := []) [] rfl ?_
        exact k_X7_meets__127 X r h
      · replace h := h.2 c_114
        refine v_aload_n X 0 dX7_meets__117 rfl rfl ?_
        refine v_iconst X dX7_meets__118 (v := (4 : Int32)) (by decide) ?_
        refine v_callVi X (As := [.int (4 : Int32)]) (rest := []) 1 0 (c_X7_meets (l := vl E) (D := vD E) (T := T) (o_p0 := o_p0) (a_p0 := a_p0) (s_p0_finding := s_p0_finding) (s_p0_asked := s_p0_asked) (s_p0_newPoints := s_p0_newPoints) (s_p0_newLines := s_p0_newLines) (s_p0_faultAt := s_p0_faultAt) (s_p0_tries := s_p0_tries) (s_p0_things := s_p0_things) (s_p0_goals := s_p0_goals) (s_p0_level := s_p0_level) (s_p0_findings := s_p0_findings) (x_1 := (4 : Int32)) h) gX7_meets__X7_meets rfl rfl (by decide +kernel) ⟨Nat.zero_le _, Nat.zero_le _⟩ ⟨rfl, rfl, by decide, by decide⟩ (Nat.le_of_ble_eq_true rfl) rfl rfl (wr := [vI T (a_p0 4) 6 s_p0_lineCount, vJ T (a_p0 7) 270 s_p0_lines, vI T (a_p0 3) 6 s_p0_points]) [0, 1] [2, 3, 4] rfl rfl rfl rfl (by decide) rfl dX7_meets__119 (fun r_119 u h => ?_)
        obtain ⟨u_119_0, u_119_1⟩ := u
        dsimp only at h
        refine v_ws (ws' := (cl_X7_meets_ T o_p0 a_p0 u_119_0 s_p0_asked s_p0_newPoints s_p0_newLines s_p0_faultAt s_p0_tries s_p0_things s_p0_goals s_p0_level u_119_1 s_p0_lineCount s_p0_lines s_p0_points)) [3, 4, 0, 1, 2] rfl rfl ?_
        refine v_goto X (tgt := 127) dX7_meets__122 (by decide) ?_
        refine v_lv (lv' := []) [] rfl ?_
        exact k_X7_meets__127 X r h
    · replace h := h.2 c_48
      refine v_aload_n X 0 dX7_meets__51 rfl rfl ?_
      refine v_get X 0 7 (F := TX7) (N := 33) iX7_meets__X7 rfl rfl (by decide) (List.mem_of_getElem? (i := 3) rfl) rfl rfl dX7_meets__52 ?_
      refine v_bipush X dX7_meets__55 (v := (45 : Int32)) (by decide) ?_
      refine v_iload_n X 1 dX7_meets__57 rfl rfl ?_
      refine v_imul X dX7_meets__58 ?_
      refine v_iload X 5 dX7_meets__59 rfl ?_
      refine v_iadd X dX7_meets__61 ?_
      refine v_lald X 3 1 rfl rfl h.1 dX7_meets__62 ?_
      replace h := h.2
      refine v_lload_n X 2 dX7_meets__63 rfl rfl ?_
      refine v_land X dX7_meets__64 ?_
      refine v_callSi0 X (As := [.long ((s_p0_lines ((((45 : Int32) * x_1) + x_7)).toNatClampNeg) &&& x_2)]) (rest := []) 1 (c_X7_bits (l := vl E) (D := vD E) (T := T) (x_0 := ((s_p0_lines ((((45 : Int32) * x_1) + x_7)).toNatClampNeg) &&& x_2)) h) gX7_meets__X7_bits rfl rfl (by decide +kernel) ⟨Nat.zero_le _, Nat.zero_le _⟩ ⟨rfl, rfl, by decide, by decide⟩ (Nat.le_of_ble_eq_true rfl) rfl dX7_meets__65 (fun r_65 h => ?_)
      refine v_istore X (lv' := [(8, .int r_65), (0, .ref o_p0), (1, .int x_1), (2, .long x_2), (4, .int x_4), (6, .int x_6), (7, .int x_7)]) dX7_meets__68 (by decide) rfl ?_
      refine v_iload X 5 dX7_meets__70 rfl ?_
      refine v_if_lt X (tgt := 97) dX7_meets__72 (by decide) (fun c_72 => ?_) (fun c_72 => ?_)
      · replace h := h.1 c_72
        refine v_lv (lv' := [(0, .ref o_p0), (1, .int x_1), (2, .long x_2), (4, .int x_4), (7, .int x_7), (8, .int r_65)]) [1, 2, 3, 4, 6, 0] rfl ?_
        exact k_X7_meets__97 X r hK_40 h
      · replace h := h.2 c_72
        refine v_iload X 4 dX7_meets__75 rfl ?_
        refine v_if_eq X (tgt := 90) dX7_meets__77 (by decide) (fun c_77 => ?_) (fun c_77 => ?_)
        · replace h := h.1 c_77
          refine v_iload X 0 dX7_meets__90 rfl ?_
          refine v_iload X 5 dX7_meets__92 rfl ?_
          refine v_icmp_ge X (tgt := 102) dX7_meets__94 (by decide) (fun c_94 => ?_) (fun c_94 => ?_)
          · replace h := h.1 c_94
            refine v_lv (lv' := [(0, .ref o_p0), (1, .int x_1), (2, .long x_2), (4, .int x_4), (6, .int x_6), (7, .int x_7)]) [1, 2, 3, 4, 5, 6] rfl ?_
            exact k_X7_meets__102 X r hK_40 h
          · replace h := h.2 c_94
            refine v_lv (lv' := [(0, .ref o_p0), (1, .int x_1), (2, .long x_2), (4, .int x_4), (7, .int x_7), (8, .int r_65)]) [1, 2, 3, 4, 6, 0] rfl ?_
            exact k_X7_meets__97 X r hK_40 h
        · replace h := h.2 c_77
          refine v_iload X 0 dX7_meets__80 rfl ?_
          refine v_iload X 5 dX7_meets__82 rfl ?_
          refine v_icmp_le X (tgt := 102) dX7_meets__84 (by decide) (fun c_84 => ?_) (fun c_84 => ?_)
          · replace h := h.1 c_84
            refine v_lv (lv' := [(0, .ref o_p0), (1, .int x_1), (2, .long x_2), (4, .int x_4), (6, .int x_6), (7, .int x_7)]) [1, 2, 3, 4, 5, 6] rfl ?_
            exact k_X7_meets__102 X r hK_40 h
          · replace h := h.2 c_84
            refine v_goto X (tgt := 97) dX7_meets__87 (by decide) ?_
            refine v_lv (lv' := [(0, .ref o_p0), (1, .int x_1), (2, .long x_2), (4, .int x_4), (7, .int x_7), (8, .int r_65)]) [1, 2, 3, 4, 6, 0] rfl ?_
            exact k_X7_meets__97 X r hK_40 h
set_option maxHeartbeats 4000000 in
set_option maxRecDepth 100000 in
theorem c_X7_meets_ {l : Launch} {D : va_G} {T : Nat → ClassId} {o_p0 : Nat} {a_p0 : Nat → Nat} {s_p0_finding : Int32} {s_p0_asked : Int64} {s_p0_newPoints : Int32} {s_p0_newLines : Int32} {s_p0_faultAt : Int64} {s_p0_tries : Int32} {s_p0_things : Int32} {s_p0_goals : Int32} {s_p0_level : Int32} {s_p0_findings : Nat → Int32} {s_p0_lineCount : Nat → Int32} {s_p0_lines : Nat → Int64} {s_p0_points : Nat → Int32} {x_1 : Int32} {x_2 : Int64} {x_4 : Int32} {Q : Int32 → (Int32) → (Nat → Int32) → Prop} (h : w_X7_meets_ x_1 x_2 x_4 s_p0_finding s_p0_findings s_p0_lineCount s_p0_lines s_p0_points Q) : vCi l D (vT T) yX7_meets_ wsX7_meets_ (vr 3 63) [.ref o_p0, .int x_1, .long x_2, .int x_4] (cl_X7_meets_ T o_p0 a_p0 s_p0_finding s_p0_asked s_p0_newPoints s_p0_newLines s_p0_faultAt s_p0_tries s_p0_things s_p0_goals s_p0_level s_p0_findings s_p0_lineCount s_p0_lines s_p0_points) (fun v (u : (Int32) × (Nat → Int32)) => Q v u.1 u.2) (fun (u : (Int32) × (Nat → Int32)) => (cl_X7_meets_ T o_p0 a_p0 u.1 s_p0_asked s_p0_newPoints s_p0_newLines s_p0_faultAt s_p0_tries s_p0_things s_p0_goals s_p0_level u.2 s_p0_lineCount s_p0_lines s_p0_points)) := by
  refine vC_i (cc := cX7_meets_) (nL := 9) (by decide +kernel) rfl ⟨rfl, rfl⟩ (Nat.le_of_ble_eq_true rfl) rfl ?_
  intro E el eD X r
  unfold w_X7_meets_ at h
  refine v_aload_n X 0 dX7_meets__0 rfl rfl ?_
  refine v_iload_n X 1 dX7_meets__1 rfl rfl ?_
  refine v_callVi X (As := [.int x_1]) (rest := []) 1 0 (c_X7_looked (l := vl E) (D := vD E) (T := T) (o_p0 := o_p0) (a_p0 := a_p0) (s_p0_finding := s_p0_finding) (s_p0_asked := s_p0_asked) (s_p0_newPoints := s_p0_newPoints) (s_p0_newLines := s_p0_newLines) (s_p0_faultAt := s_p0_faultAt) (s_p0_tries := s_p0_tries) (s_p0_things := s_p0_things) (s_p0_goals := s_p0_goals) (s_p0_level := s_p0_level) (s_p0_findings := s_p0_findings) (s_p0_points := s_p0_points) (x_1 := x_1) h) gX7_meets__X7_looked rfl rfl (by decide +kernel) ⟨Nat.zero_le _, Nat.zero_le _⟩ ⟨rfl, rfl, by decide, by decide⟩ (Nat.le_of_ble_eq_true rfl) rfl rfl (wr := [vI T (a_p0 4) 6 s_p0_lineCount, vJ T (a_p0 7) 270 s_p0_lines]) [0, 1, 4] [2, 3] rfl rfl rfl rfl (by decide) rfl dX7_meets__2 (fun r_2 u h => ?_)
  obtain ⟨u_2_0, u_2_1⟩ := u
  dsimp only at h
  refine v_ws (ws' := (cl_X7_meets_ T o_p0 a_p0 u_2_0 s_p0_asked s_p0_newPoints s_p0_newLines s_p0_faultAt s_p0_tries s_p0_things s_p0_goals s_p0_level u_2_1 s_p0_lineCount s_p0_lines s_p0_points)) [2, 3, 0, 1, 4] rfl rfl ?_
  refine v_istore X (lv' := [(5, .int r_2), (0, .ref o_p0), (1, .int x_1), (2, .long x_2), (4, .int x_4)]) dX7_meets__5 (by decide) rfl ?_
  refine v_iload X 0 dX7_meets__7 rfl ?_
  refine v_if_ge X (tgt := 15) dX7_meets__9 (by decide) (fun c_9 => ?_) (fun c_9 => ?_)
  · replace h := h.1 c_9
    refine v_lload_n X 3 dX7_meets__15 rfl rfl ?_
    refine v_aload_n X 1 dX7_meets__16 rfl rfl ?_
    refine v_iload_n X 2 dX7_meets__17 rfl rfl ?_
    refine v_callVl X (As := [.int x_1]) (rest := [.long x_2]) 1 0 (c_X7_allOf (l := vl E) (D := vD E) (T := T) (o_p0 := o_p0) (a_p0 := a_p0) (s_p0_finding := u_2_0) (s_p0_asked := s_p0_asked) (s_p0_newPoints := s_p0_newPoints) (s_p0_newLines := s_p0_newLines) (s_p0_faultAt := s_p0_faultAt) (s_p0_tries := s_p0_tries) (s_p0_things := s_p0_things) (s_p0_goals := s_p0_goals) (s_p0_level := s_p0_level) (s_p0_points := s_p0_points) (x_1 := x_1) h) gX7_meets__X7_allOf rfl rfl (by decide +kernel) ⟨Nat.zero_le _, Nat.zero_le _⟩ ⟨rfl, rfl, by decide, by decide⟩ (Nat.le_of_ble_eq_true rfl) rfl rfl (wr := [vI T (a_p0 1) 6 u_2_1, vI T (a_p0 4) 6 s_p0_lineCount, vJ T (a_p0 7) 270 s_p0_lines]) [0, 4] [1, 2, 3] rfl rfl rfl rfl (by decide) rfl dX7_meets__18 (fun r_18 u h => ?_)
    refine v_ws (ws' := (cl_X7_meets_ T o_p0 a_p0 u_2_0 s_p0_asked s_p0_newPoints s_p0_newLines s_p0_faultAt s_p0_tries s_p0_things s_p0_goals s_p0_level u_2_1 s_p0_lineCount s_p0_lines s_p0_points)) [3, 0, 1, 2, 4] rfl rfl ?_
    refine v_ldc2 X (v := (-1 : Int64)) (List.mem_of_getElem? (i := 1) rfl) dX7_meets__21 ?_
    refine v_lxor X dX7_meets__24 ?_
    refine v_land X dX7_meets__25 ?_
    refine v_lconst X dX7_meets__26 (v := (0 : Int64)) (by decide) ?_
    refine v_lcmp X dX7_meets__27 ?_
    refine v_if_eq X (tgt := 33) dX7_meets__28 (by decide) (fun c_28 => ?_) (fun c_28 => ?_)
    · replace h := h.1 c_28
      refine v_bipush X dX7_meets__33 (v := (-9 : Int32)) (by decide) ?_
      refine v_istore X (lv' := [(6, .int (-9 : Int32)), (5, .int r_2), (0, .ref o_p0), (1, .int x_1), (2, .long x_2), (4, .int x_4)]) dX7_meets__35 (by decide) rfl ?_
      refine v_iconst X dX7_meets__37 (v := (0 : Int32)) (by decide) ?_
      refine v_istore X (lv' := [(7, .int (0 : Int32)), (6, .int (-9 : Int32)), (5, .int r_2), (0, .ref o_p0), (1, .int x_1), (2, .long x_2), (4, .int x_4)]) dX7_meets__38 (by decide) rfl ?_
      refine v_lv (lv' := [(0, .ref o_p0), (1, .int x_1), (2, .long x_2), (4, .int x_4), (6, .int (-9 : Int32)), (7, .int (0 : Int32))]) [3, 4, 5, 6, 1, 0] rfl ?_
      obtain ⟨n_, h⟩ := h
      exact k_X7_meets__40 X r n_ _ _ h
    · replace h := h.2 c_28
      refine v_iconst X dX7_meets__31 (v := (-1 : Int32)) (by decide) ?_
      exact r _ _ _ (u_2_0, u_2_1) _ dX7_meets__32 h rfl
  · replace h := h.2 c_9
    refine v_iload X 0 dX7_meets__12 rfl ?_
    exact r _ _ _ (u_2_0, u_2_1) _ dX7_meets__14 h rfl
-- X7_setSeeking
abbrev cl_X7_setSeeking (T : Nat → ClassId) (o_p0 : Nat) (a_p0 : Nat → Nat) (s_p0_finding : Int32) (s_p0_asked : Int64) (s_p0_newPoints : Int32) (s_p0_newLines : Int32) (s_p0_faultAt : Int64) (s_p0_tries : Int32) (s_p0_things : Int32) (s_p0_goals : Int32) (s_p0_level : Int32) (s_p0_bars : Nat → Int64) (s_p0_choices : Nat → Int64) (s_p0_hits : Nat → Int64) (s_p0_lineCount : Nat → Int32) (s_p0_lines : Nat → Int64) (s_p0_points : Nat → Int32) : va_W := [vO o_p0 4 [.int s_p0_finding, .ref (a_p0 1), .long s_p0_asked, .ref (a_p0 3), .ref (a_p0 4), .ref (a_p0 5), .ref (a_p0 6), .ref (a_p0 7), .int s_p0_newPoints, .int s_p0_newLines, .ref (a_p0 10), .ref (a_p0 11), .long s_p0_faultAt, .int s_p0_tries, .int s_p0_things, .int s_p0_goals, .ref (a_p0 16), .ref (a_p0 17), .ref (a_p0 18), .ref (a_p0 19), .ref (a_p0 20), .ref (a_p0 21), .int s_p0_level, .ref (a_p0 23), .ref (a_p0 24), .ref (a_p0 25), .ref (a_p0 26), .ref (a_p0 27), .ref (a_p0 28), .ref (a_p0 29), .ref (a_p0 30), .ref (a_p0 31), .ref (a_p0 32)], vJ T (a_p0 16) 45 s_p0_bars, vJ T (a_p0 18) 45 s_p0_choices, vJ T (a_p0 17) 45 s_p0_hits, vI T (a_p0 4) 6 s_p0_lineCount, vJ T (a_p0 7) 270 s_p0_lines, vI T (a_p0 3) 6 s_p0_points]
abbrev r_X7_setSeeking (E : vE) (T : Nat → ClassId) (o_p0 : Nat) (a_p0 : Nat → Nat) (s_p0_finding : Int32) (s_p0_asked : Int64) (s_p0_newPoints : Int32) (s_p0_newLines : Int32) (s_p0_faultAt : Int64) (s_p0_tries : Int32) (s_p0_level : Int32) (s_p0_lineCount : Nat → Int32) (s_p0_lines : Nat → Int64) (s_p0_points : Nat → Int32) (Q : (Int32) → (Int32) → (Nat → Int64) → (Nat → Int64) → (Nat → Int64) → Prop) : Prop := vRv E cX7_setSeeking (fun (u : (Int32) × (Int32) × (Nat → Int64) × (Nat → Int64) × (Nat → Int64)) => Q u.1 u.2.1 u.2.2.1 u.2.2.2.1 u.2.2.2.2) (fun (u : (Int32) × (Int32) × (Nat → Int64) × (Nat → Int64) × (Nat → Int64)) => (cl_X7_setSeeking T o_p0 a_p0 s_p0_finding s_p0_asked s_p0_newPoints s_p0_newLines s_p0_faultAt s_p0_tries u.1 u.2.1 s_p0_level u.2.2.1 u.2.2.2.1 u.2.2.2.2 s_p0_lineCount s_p0_lines s_p0_points))
def w_X7_setSeeking_203 (x_3 : Int32) (x_4 : Int32) (t_1 : Int32) (t_2 : Int64) (t_3 : Int64) (s_p0_things : Int32) (s_p0_goals : Int32) (s_p0_bars : Nat → Int64) (s_p0_choices : Nat → Int64) (s_p0_hits : Nat → Int64) (s_p0_lineCount : Nat → Int32) (s_p0_lines : Nat → Int64) (s_p0_points : Nat → Int32) (K_140 : (Int32) → (Nat → Int64) → Prop) (K_160 : (Int32) → (Nat → Int64) → Prop) (Q : (Int32) → (Int32) → (Nat → Int64) → (Nat → Int64) → (Nat → Int64) → Prop) : Prop := (vp_in t_1 45 ∧ (K_160 (x_4 + (1 : Int32)) (vp_updL s_p0_bars (t_1).toNatClampNeg (t_2 ||| t_3))))
def w_X7_setSeeking_160s (x_3 : Int32) (s_p0_things : Int32) (s_p0_goals : Int32) (s_p0_choices : Nat → Int64) (s_p0_hits : Nat → Int64) (s_p0_lineCount : Nat → Int32) (s_p0_lines : Nat → Int64) (s_p0_points : Nat → Int32) (K_140 : (Int32) → (Nat → Int64) → Prop) (Q : (Int32) → (Int32) → (Nat → Int64) → (Nat → Int64) → (Nat → Int64) → Prop) (K_160 : (Int32) → (Nat → Int64) → Prop) (x_4 : Int32) (s_p0_bars : Nat → Int64) : Prop := ((s_p0_things ≤ x_4 → (K_140 (x_3 + (1 : Int32)) s_p0_bars)) ∧ (¬ s_p0_things ≤ x_4 → (vp_in x_3 45 ∧ (vp_in x_3 45 ∧ (vp_in x_4 45 ∧ (((lg_cmp ((s_p0_hits (x_3).toNatClampNeg) &&& (s_p0_hits (x_4).toNatClampNeg)) (0 : Int64)) = 0 → (w_X7_setSeeking_203 x_3 x_4 x_3 (s_p0_bars (x_3).toNatClampNeg) (0 : Int64) s_p0_things s_p0_goals s_p0_bars s_p0_choices s_p0_hits s_p0_lineCount s_p0_lines s_p0_points K_140 K_160 Q)) ∧ (¬ (lg_cmp ((s_p0_hits (x_3).toNatClampNeg) &&& (s_p0_hits (x_4).toNatClampNeg)) (0 : Int64)) = 0 → (w_X7_setSeeking_203 x_3 x_4 x_3 (s_p0_bars (x_3).toNatClampNeg) (vshl (1 : Int64) x_4) s_p0_things s_p0_goals s_p0_bars s_p0_choices s_p0_hits s_p0_lineCount s_p0_lines s_p0_points K_140 K_160 Q))))))))
def w_X7_setSeeking_160 (x_3 : Int32) (s_p0_things : Int32) (s_p0_goals : Int32) (s_p0_choices : Nat → Int64) (s_p0_hits : Nat → Int64) (s_p0_lineCount : Nat → Int32) (s_p0_lines : Nat → Int64) (s_p0_points : Nat → Int32) (K_140 : (Int32) → (Nat → Int64) → Prop) (Q : (Int32) → (Int32) → (Nat → Int64) → (Nat → Int64) → (Nat → Int64) → Prop) : Nat → (Int32) → (Nat → Int64) → Prop
  | 0 => fun _ _ => False
  | n_ + 1 => w_X7_setSeeking_160s x_3 s_p0_things s_p0_goals s_p0_choices s_p0_hits s_p0_lineCount s_p0_lines s_p0_points K_140 Q (w_X7_setSeeking_160 x_3 s_p0_things s_p0_goals s_p0_choices s_p0_hits s_p0_lineCount s_p0_lines s_p0_points K_140 Q n_)
def w_X7_setSeeking_140s (s_p0_things : Int32) (s_p0_goals : Int32) (s_p0_choices : Nat → Int64) (s_p0_hits : Nat → Int64) (s_p0_lineCount : Nat → Int32) (s_p0_lines : Nat → Int64) (s_p0_points : Nat → Int32) (Q : (Int32) → (Int32) → (Nat → Int64) → (Nat → Int64) → (Nat → Int64) → Prop) (K_140 : (Int32) → (Nat → Int64) → Prop) (x_3 : Int32) (s_p0_bars : Nat → Int64) : Prop := ((s_p0_things ≤ x_3 → (Q s_p0_things s_p0_goals s_p0_bars s_p0_choices s_p0_hits)) ∧ (¬ s_p0_things ≤ x_3 → (vp_in x_3 45 ∧ (∃ n_, w_X7_setSeeking_160 x_3 s_p0_things s_p0_goals s_p0_choices s_p0_hits s_p0_lineCount s_p0_lines s_p0_points K_140 Q n_ (0 : Int32) (vp_updL s_p0_bars (x_3).toNatClampNeg (vshl (1 : Int64) x_3))))))
def w_X7_setSeeking_140 (s_p0_things : Int32) (s_p0_goals : Int32) (s_p0_choices : Nat → Int64) (s_p0_hits : Nat → Int64) (s_p0_lineCount : Nat → Int32) (s_p0_lines : Nat → Int64) (s_p0_points : Nat → Int32) (Q : (Int32) → (Int32) → (Nat → Int64) → (Nat → Int64) → (Nat → Int64) → Prop) : Nat → (Int32) → (Nat → Int64) → Prop
  | 0 => fun _ _ => False
  | n_ + 1 => w_X7_setSeeking_140s s_p0_things s_p0_goals s_p0_choices s_p0_hits s_p0_lineCount s_p0_lines s_p0_points Q (w_X7_setSeeking_140 s_p0_things s_p0_goals s_p0_choices s_p0_hits s_p0_lineCount s_p0_lines s_p0_points Q n_)
def w_X7_setSeeking_131 (x_1 : Int32) (x_2 : Int32) (x_3 : Int32) (t_1 : Int32) (t_2 : Int64) (s_p0_things : Int32) (s_p0_goals : Int32) (s_p0_bars : Nat → Int64) (s_p0_choices : Nat → Int64) (s_p0_hits : Nat → Int64) (s_p0_lineCount : Nat → Int32) (s_p0_lines : Nat → Int64) (s_p0_points : Nat → Int32) (K_94 : (Int32) → (Nat → Int64) → Prop) (Q : (Int32) → (Int32) → (Nat → Int64) → (Nat → Int64) → (Nat → Int64) → Prop) : Prop := (vp_in t_1 45 ∧ (K_94 (x_3 + (1 : Int32)) (vp_updL s_p0_choices (t_1).toNatClampNeg t_2)))
def w_X7_setSeeking_94s (x_1 : Int32) (x_2 : Int32) (s_p0_things : Int32) (s_p0_goals : Int32) (s_p0_bars : Nat → Int64) (s_p0_hits : Nat → Int64) (s_p0_lineCount : Nat → Int32) (s_p0_lines : Nat → Int64) (s_p0_points : Nat → Int32) (Q : (Int32) → (Int32) → (Nat → Int64) → (Nat → Int64) → (Nat → Int64) → Prop) (K_94 : (Int32) → (Nat → Int64) → Prop) (x_3 : Int32) (s_p0_choices : Nat → Int64) : Prop := ((s_p0_goals ≤ x_3 → (∃ n_, w_X7_setSeeking_140 s_p0_things s_p0_goals s_p0_choices s_p0_hits s_p0_lineCount s_p0_lines s_p0_points Q n_ (0 : Int32) s_p0_bars)) ∧ (¬ s_p0_goals ≤ x_3 → ((x_2 = 0 → (w_X7_through x_1 x_3 s_p0_lineCount s_p0_lines (fun (r_128 : Int64) => (w_X7_setSeeking_131 x_1 x_2 x_3 x_3 r_128 s_p0_things s_p0_goals s_p0_bars s_p0_choices s_p0_hits s_p0_lineCount s_p0_lines s_p0_points K_94 Q)))) ∧ (¬ x_2 = 0 → (vp_in (((45 : Int32) * x_1) + x_3) 270 ∧ (w_X7_setSeeking_131 x_1 x_2 x_3 x_3 (s_p0_lines ((((45 : Int32) * x_1) + x_3)).toNatClampNeg) s_p0_things s_p0_goals s_p0_bars s_p0_choices s_p0_hits s_p0_lineCount s_p0_lines s_p0_points K_94 Q))))))
def w_X7_setSeeking_94 (x_1 : Int32) (x_2 : Int32) (s_p0_things : Int32) (s_p0_goals : Int32) (s_p0_bars : Nat → Int64) (s_p0_hits : Nat → Int64) (s_p0_lineCount : Nat → Int32) (s_p0_lines : Nat → Int64) (s_p0_points : Nat → Int32) (Q : (Int32) → (Int32) → (Nat → Int64) → (Nat → Int64) → (Nat → Int64) → Prop) : Nat → (Int32) → (Nat → Int64) → Prop
  | 0 => fun _ _ => False
  | n_ + 1 => w_X7_setSeeking_94s x_1 x_2 s_p0_things s_p0_goals s_p0_bars s_p0_hits s_p0_lineCount s_p0_lines s_p0_points Q (w_X7_setSeeking_94 x_1 x_2 s_p0_things s_p0_goals s_p0_bars s_p0_hits s_p0_lineCount s_p0_lines s_p0_points Q n_)
def w_X7_setSeeking_85 (x_1 : Int32) (x_2 : Int32) (x_3 : Int32) (t_1 : Int32) (t_2 : Int64) (s_p0_things : Int32) (s_p0_goals : Int32) (s_p0_bars : Nat → Int64) (s_p0_choices : Nat → Int64) (s_p0_hits : Nat → Int64) (s_p0_lineCount : Nat → Int32) (s_p0_lines : Nat → Int64) (s_p0_points : Nat → Int32) (K_48 : (Int32) → (Nat → Int64) → Prop) (Q : (Int32) → (Int32) → (Nat → Int64) → (Nat → Int64) → (Nat → Int64) → Prop) : Prop := (vp_in t_1 45 ∧ (K_48 (x_3 + (1 : Int32)) (vp_updL s_p0_hits (t_1).toNatClampNeg t_2)))
def w_X7_setSeeking_48s (x_1 : Int32) (x_2 : Int32) (s_p0_things : Int32) (s_p0_goals : Int32) (s_p0_bars : Nat → Int64) (s_p0_choices : Nat → Int64) (s_p0_lineCount : Nat → Int32) (s_p0_lines : Nat → Int64) (s_p0_points : Nat → Int32) (Q : (Int32) → (Int32) → (Nat → Int64) → (Nat → Int64) → (Nat → Int64) → Prop) (K_48 : (Int32) → (Nat → Int64) → Prop) (x_3 : Int32) (s_p0_hits : Nat → Int64) : Prop := ((s_p0_things ≤ x_3 → (∃ n_, w_X7_setSeeking_94 x_1 x_2 s_p0_things s_p0_goals s_p0_bars s_p0_hits s_p0_lineCount s_p0_lines s_p0_points Q n_ (0 : Int32) s_p0_choices)) ∧ (¬ s_p0_things ≤ x_3 → ((x_2 = 0 → (vp_in (((45 : Int32) * x_1) + x_3) 270 ∧ (w_X7_setSeeking_85 x_1 x_2 x_3 x_3 (s_p0_lines ((((45 : Int32) * x_1) + x_3)).toNatClampNeg) s_p0_things s_p0_goals s_p0_bars s_p0_choices s_p0_hits s_p0_lineCount s_p0_lines s_p0_points K_48 Q))) ∧ (¬ x_2 = 0 → (w_X7_through x_1 x_3 s_p0_lineCount s_p0_lines (fun (r_68 : Int64) => (w_X7_setSeeking_85 x_1 x_2 x_3 x_3 r_68 s_p0_things s_p0_goals s_p0_bars s_p0_choices s_p0_hits s_p0_lineCount s_p0_lines s_p0_points K_48 Q)))))))
def w_X7_setSeeking_48 (x_1 : Int32) (x_2 : Int32) (s_p0_things : Int32) (s_p0_goals : Int32) (s_p0_bars : Nat → Int64) (s_p0_choices : Nat → Int64) (s_p0_lineCount : Nat → Int32) (s_p0_lines : Nat → Int64) (s_p0_points : Nat → Int32) (Q : (Int32) → (Int32) → (Nat → Int64) → (Nat → Int64) → (Nat → Int64) → Prop) : Nat → (Int32) → (Nat → Int64) → Prop
  | 0 => fun _ _ => False
  | n_ + 1 => w_X7_setSeeking_48s x_1 x_2 s_p0_things s_p0_goals s_p0_bars s_p0_choices s_p0_lineCount s_p0_lines s_p0_points Q (w_X7_setSeeking_48 x_1 x_2 s_p0_things s_p0_goals s_p0_bars s_p0_choices s_p0_lineCount s_p0_lines s_p0_points Q n_)
def w_X7_setSeeking_43 (x_1 : Int32) (x_2 : Int32) (t_1 : Int32) (s_p0_things : Int32) (s_p0_goals : Int32) (s_p0_bars : Nat → Int64) (s_p0_choices : Nat → Int64) (s_p0_hits : Nat → Int64) (s_p0_lineCount : Nat → Int32) (s_p0_lines : Nat → Int64) (s_p0_points : Nat → Int32) (Q : (Int32) → (Int32) → (Nat → Int64) → (Nat → Int64) → (Nat → Int64) → Prop) : Prop := (∃ n_, w_X7_setSeeking_48 x_1 x_2 s_p0_things t_1 s_p0_bars s_p0_choices s_p0_lineCount s_p0_lines s_p0_points Q n_ (0 : Int32) s_p0_hits)
def w_X7_setSeeking_20 (x_1 : Int32) (x_2 : Int32) (t_1 : Int32) (s_p0_things : Int32) (s_p0_goals : Int32) (s_p0_bars : Nat → Int64) (s_p0_choices : Nat → Int64) (s_p0_hits : Nat → Int64) (s_p0_lineCount : Nat → Int32) (s_p0_lines : Nat → Int64) (s_p0_points : Nat → Int32) (Q : (Int32) → (Int32) → (Nat → Int64) → (Nat → Int64) → (Nat → Int64) → Prop) : Prop := ((x_2 = 0 → (vp_in x_1 6 ∧ (w_X7_setSeeking_43 x_1 x_2 (s_p0_points (x_1).toNatClampNeg) t_1 s_p0_goals s_p0_bars s_p0_choices s_p0_hits s_p0_lineCount s_p0_lines s_p0_points Q))) ∧ (¬ x_2 = 0 → (vp_in x_1 6 ∧ (w_X7_setSeeking_43 x_1 x_2 (s_p0_lineCount (x_1).toNatClampNeg) t_1 s_p0_goals s_p0_bars s_p0_choices s_p0_hits s_p0_lineCount s_p0_lines s_p0_points Q))))
def w_X7_setSeeking (x_1 : Int32) (x_2 : Int32) (s_p0_things : Int32) (s_p0_goals : Int32) (s_p0_bars : Nat → Int64) (s_p0_choices : Nat → Int64) (s_p0_hits : Nat → Int64) (s_p0_lineCount : Nat → Int32) (s_p0_lines : Nat → Int64) (s_p0_points : Nat → Int32) (Q : (Int32) → (Int32) → (Nat → Int64) → (Nat → Int64) → (Nat → Int64) → Prop) : Prop := ((x_2 = 0 → (vp_in x_1 6 ∧ (w_X7_setSeeking_20 x_1 x_2 (s_p0_lineCount (x_1).toNatClampNeg) s_p0_things s_p0_goals s_p0_bars s_p0_choices s_p0_hits s_p0_lineCount s_p0_lines s_p0_points Q))) ∧ (¬ x_2 = 0 → (vp_in x_1 6 ∧ (w_X7_setSeeking_20 x_1 x_2 (s_p0_points (x_1).toNatClampNeg) s_p0_things s_p0_goals s_p0_bars s_p0_choices s_p0_hits s_p0_lineCount s_p0_lines s_p0_points Q))))
-- X7_setSeeking
theorem iX7_setSeeking_X7 : ∀ w ∈ wsX70, w ∈ wsX7_setSeeking := by decide +kernel
set_option maxHeartbeats 4000000 in
set_option maxRecDepth 100000 in
theorem k_X7_setSeeking_203 {E : vE} {T : Nat → ClassId} {o_p0 : Nat} {a_p0 : Nat → Nat} {s_p0_finding : Int32} {s_p0_asked : Int64} {s_p0_newPoints : Int32} {s_p0_newLines : Int32} {s_p0_faultAt : Int64} {s_p0_tries : Int32} {s_p0_things : Int32} {s_p0_goals : Int32} {s_p0_level : Int32} {s_p0_bars : Nat → Int64} {s_p0_choices : Nat → Int64} {s_p0_hits : Nat → Int64} {s_p0_lineCount : Nat → Int32} {s_p0_lines : Nat → Int64} {s_p0_points : Nat → Int32} {x_3 : Int32} {x_4 : Int32} {t_1 : Int32} {t_2 : Int64} {t_3 : Int64} {K_140 : (Int32) → (Nat → Int64) → Prop} {K_160 : (Int32) → (Nat → Int64) → Prop} {Q : (Int32) → (Int32) → (Nat → Int64) → (Nat → Int64) → (Nat → Int64) → Prop} (X : vX E cX7_setSeeking 5 RX7 wsX7_setSeeking (vT T) (vr 2 47)) (r : r_X7_setSeeking E T o_p0 a_p0 s_p0_finding s_p0_asked s_p0_newPoints s_p0_newLines s_p0_faultAt s_p0_tries s_p0_level s_p0_lineCount s_p0_lines s_p0_points Q) (hK_140 : ∀ (x_3' : Int32) (s_p0_bars' : Nat → Int64), K_140 x_3' s_p0_bars' → V E 0 0 140 [(0, .ref o_p0), (3, .int x_3')] [] (cl_X7_setSeeking T o_p0 a_p0 s_p0_finding s_p0_asked s_p0_newPoints s_p0_newLines s_p0_faultAt s_p0_tries s_p0_things s_p0_goals s_p0_level s_p0_bars' s_p0_choices s_p0_hits s_p0_lineCount s_p0_lines s_p0_points)) (hK_160 : ∀ (x_4' : Int32) (s_p0_bars' : Nat → Int64), K_160 x_4' s_p0_bars' → V E 0 0 160 [(0, .ref o_p0), (3, .int x_3), (4, .int x_4')] [] (cl_X7_setSeeking T o_p0 a_p0 s_p0_finding s_p0_asked s_p0_newPoints s_p0_newLines s_p0_faultAt s_p0_tries s_p0_things s_p0_goals s_p0_level s_p0_bars' s_p0_choices s_p0_hits s_p0_lineCount s_p0_lines s_p0_points)) (h : w_X7_setSeeking_203 x_3 x_4 t_1 t_2 t_3 s_p0_things s_p0_goals s_p0_bars s_p0_choices s_p0_hits s_p0_lineCount s_p0_lines s_p0_points K_140 K_160 Q) : V E 0 0 203 [(0, .ref o_p0), (3, .int x_3), (4, .int x_4)] [.long t_3, .long t_2, .int t_1, .ref (a_p0 16)] (cl_X7_setSeeking T o_p0 a_p0 s_p0_finding s_p0_asked s_p0_newPoints s_p0_newLines s_p0_faultAt s_p0_tries s_p0_things s_p0_goals s_p0_level s_p0_bars s_p0_choices s_p0_hits s_p0_lineCount s_p0_lines s_p0_points) := by
  unfold w_X7_setSeeking_203 at h
  refine v_lor X dX7_setSeeking_203 ?_
  refine v_last X (ws' := (cl_X7_setSeeking T o_p0 a_p0 s_p0_finding s_p0_asked s_p0_newPoints s_p0_newLines s_p0_faultAt s_p0_tries s_p0_things s_p0_goals s_p0_level (vp_updL s_p0_bars (t_1).toNatClampNeg (t_2 ||| t_3)) s_p0_choices s_p0_hits s_p0_lineCount s_p0_lines s_p0_points)) 1 1 rfl rfl h.1 rfl dX7_setSeeking_204 ?_
  replace h := h.2
  refine v_iinc X (v := (x_4 + (1 : Int32))) (lv' := [(4, .int (x_4 + (1 : Int32))), (0, .ref o_p0), (3, .int x_3)]) 2 dX7_setSeeking_205 rfl rfl (by decide) rfl ?_
  refine v_goto X (tgt := 160) dX7_setSeeking_208 (by decide) ?_
  refine v_lv (lv' := [(0, .ref o_p0), (3, .int x_3), (4, .int (x_4 + (1 : Int32)))]) [1, 2, 0] rfl ?_
  exact hK_160 _ _ h
set_option maxHeartbeats 4000000 in
set_option maxRecDepth 100000 in
theorem k_X7_setSeeking_160 {E : vE} {T : Nat → ClassId} {o_p0 : Nat} {a_p0 : Nat → Nat} {s_p0_finding : Int32} {s_p0_asked : Int64} {s_p0_newPoints : Int32} {s_p0_newLines : Int32} {s_p0_faultAt : Int64} {s_p0_tries : Int32} {s_p0_things : Int32} {s_p0_goals : Int32} {s_p0_level : Int32} {s_p0_choices : Nat → Int64} {s_p0_hits : Nat → Int64} {s_p0_lineCount : Nat → Int32} {s_p0_lines : Nat → Int64} {s_p0_points : Nat → Int32} {x_3 : Int32} {K_140 : (Int32) → (Nat → Int64) → Prop} {Q : (Int32) → (Int32) → (Nat → Int64) → (Nat → Int64) → (Nat → Int64) → Prop} (X : vX E cX7_setSeeking 5 RX7 wsX7_setSeeking (vT T) (vr 2 47)) (r : r_X7_setSeeking E T o_p0 a_p0 s_p0_finding s_p0_asked s_p0_newPoints s_p0_newLines s_p0_faultAt s_p0_tries s_p0_level s_p0_lineCount s_p0_lines s_p0_points Q) (hK_140 : ∀ (x_3' : Int32) (s_p0_bars' : Nat → Int64), K_140 x_3' s_p0_bars' → V E 0 0 140 [(0, .ref o_p0), (3, .int x_3')] [] (cl_X7_setSeeking T o_p0 a_p0 s_p0_finding s_p0_asked s_p0_newPoints s_p0_newLines s_p0_faultAt s_p0_tries s_p0_things s_p0_goals s_p0_level s_p0_bars' s_p0_choices s_p0_hits s_p0_lineCount s_p0_lines s_p0_points)) : ∀ (n_ : Nat) (x_4 : Int32) (s_p0_bars : Nat → Int64), w_X7_setSeeking_160 x_3 s_p0_things s_p0_goals s_p0_choices s_p0_hits s_p0_lineCount s_p0_lines s_p0_points K_140 Q n_ x_4 s_p0_bars → V E 0 0 160 [(0, .ref o_p0), (3, .int x_3), (4, .int x_4)] [] (cl_X7_setSeeking T o_p0 a_p0 s_p0_finding s_p0_asked s_p0_newPoints s_p0_newLines s_p0_faultAt s_p0_tries s_p0_things s_p0_goals s_p0_level s_p0_bars s_p0_choices s_p0_hits s_p0_lineCount s_p0_lines s_p0_points) := by
  intro n_
  induction n_ with
  | zero => intro x_4 s_p0_bars h; exact h.elim
  | succ n_ hK_160 =>
    intro x_4 s_p0_bars h
    replace h : w_X7_setSeeking_160s x_3 s_p0_things s_p0_goals s_p0_choices s_p0_hits s_p0_lineCount s_p0_lines s_p0_points K_140 Q (w_X7_setSeeking_160 x_3 s_p0_things s_p0_goals s_p0_choices s_p0_hits s_p0_lineCount s_p0_lines s_p0_points K_140 Q n_) x_4 s_p0_bars := h
    unfold w_X7_setSeeking_160s at h
    refine v_iload X 2 dX7_setSeeking_160 rfl ?_
    refine v_aload_n X 0 dX7_setSeeking_162 rfl rfl ?_
    refine v_get X 0 14 (F := TX7) (N := 33) iX7_setSeeking_X7 rfl rfl (by decide) (List.mem_of_getElem? (i := 3) rfl) rfl rfl dX7_setSeeking_163 ?_
    refine v_icmp_ge X (tgt := 211) dX7_setSeeking_166 (by decide) (fun c_166 => ?_) (fun c_166 => ?_)
    · replace h := h.1 c_166
      refine v_iinc X (v := (x_3 + (1 : Int32))) (lv' := [(3, .int (x_3 + (1 : Int32))), (0, .ref o_p0), (4, .int x_4)]) 1 dX7_setSeeking_211 rfl rfl (by decide) rfl ?_
      refine v_goto X (tgt := 140) dX7_setSeeking_214 (by decide) ?_
      refine v_lv (lv' := [(0, .ref o_p0), (3, .int (x_3 + (1 : Int32)))]) [1, 0] rfl ?_
      exact hK_140 _ _ h
    · replace h := h.2 c_166
      refine v_aload_n X 0 dX7_setSeeking_169 rfl rfl ?_
      refine v_get X 0 16 (F := TX7) (N := 33) iX7_setSeeking_X7 rfl rfl (by decide) (List.mem_of_getElem? (i := 8) rfl) rfl rfl dX7_setSeeking_170 ?_
      refine v_iload_n X 1 dX7_setSeeking_173 rfl rfl ?_
      refine v_dup2_11 X dX7_setSeeking_174 rfl rfl ?_
      refine v_lald X 1 1 rfl rfl h.1 dX7_setSeeking_175 ?_
      replace h := h.2
      refine v_aload_n X 0 dX7_setSeeking_176 rfl rfl ?_
      refine v_get X 0 17 (F := TX7) (N := 33) iX7_setSeeking_X7 rfl rfl (by decide) (List.mem_of_getElem? (i := 5) rfl) rfl rfl dX7_setSeeking_177 ?_
      refine v_iload_n X 1 dX7_setSeeking_180 rfl rfl ?_
      refine v_lald X 3 1 rfl rfl h.1 dX7_setSeeking_181 ?_
      replace h := h.2
      refine v_aload_n X 0 dX7_setSeeking_182 rfl rfl ?_
      refine v_get X 0 17 (F := TX7) (N := 33) iX7_setSeeking_X7 rfl rfl (by decide) (List.mem_of_getElem? (i := 5) rfl) rfl rfl dX7_setSeeking_183 ?_
      refine v_iload X 2 dX7_setSeeking_186 rfl ?_
      refine v_lald X 3 1 rfl rfl h.1 dX7_setSeeking_188 ?_
      replace h := h.2
      refine v_land X dX7_setSeeking_189 ?_
      refine v_lconst X dX7_setSeeking_190 (v := (0 : Int64)) (by decide) ?_
      refine v_lcmp X dX7_setSeeking_191 ?_
      refine v_if_eq X (tgt := 202) dX7_setSeeking_192 (by decide) (fun c_192 => ?_) (fun c_192 => ?_)
      · replace h := h.1 c_192
        refine v_lconst X dX7_setSeeking_202 (v := (0 : Int64)) (by decide) ?_
        exact k_X7_setSeeking_203 X r hK_140 hK_160 h
      · replace h := h.2 c_192
        refine v_lconst X dX7_setSeeking_195 (v := (1 : Int64)) (by decide) ?_
        refine v_iload X 2 dX7_setSeeking_196 rfl ?_
        refine v_lshl X dX7_setSeeking_198 ?_
        refine v_goto X (tgt := 203) dX7_setSeeking_199 (by decide) ?_
        exact k_X7_setSeeking_203 X r hK_140 hK_160 h
set_option maxHeartbeats 4000000 in
set_option maxRecDepth 100000 in
theorem k_X7_setSeeking_140 {E : vE} {T : Nat → ClassId} {o_p0 : Nat} {a_p0 : Nat → Nat} {s_p0_finding : Int32} {s_p0_asked : Int64} {s_p0_newPoints : Int32} {s_p0_newLines : Int32} {s_p0_faultAt : Int64} {s_p0_tries : Int32} {s_p0_things : Int32} {s_p0_goals : Int32} {s_p0_level : Int32} {s_p0_choices : Nat → Int64} {s_p0_hits : Nat → Int64} {s_p0_lineCount : Nat → Int32} {s_p0_lines : Nat → Int64} {s_p0_points : Nat → Int32} {Q : (Int32) → (Int32) → (Nat → Int64) → (Nat → Int64) → (Nat → Int64) → Prop} (X : vX E cX7_setSeeking 5 RX7 wsX7_setSeeking (vT T) (vr 2 47)) (r : r_X7_setSeeking E T o_p0 a_p0 s_p0_finding s_p0_asked s_p0_newPoints s_p0_newLines s_p0_faultAt s_p0_tries s_p0_level s_p0_lineCount s_p0_lines s_p0_points Q) : ∀ (n_ : Nat) (x_3 : Int32) (s_p0_bars : Nat → Int64), w_X7_setSeeking_140 s_p0_things s_p0_goals s_p0_choices s_p0_hits s_p0_lineCount s_p0_lines s_p0_points Q n_ x_3 s_p0_bars → V E 0 0 140 [(0, .ref o_p0), (3, .int x_3)] [] (cl_X7_setSeeking T o_p0 a_p0 s_p0_finding s_p0_asked s_p0_newPoints s_p0_newLines s_p0_faultAt s_p0_tries s_p0_things s_p0_goals s_p0_level s_p0_bars s_p0_choices s_p0_hits s_p0_lineCount s_p0_lines s_p0_points) := by
  intro n_
  induction n_ with
  | zero => intro x_3 s_p0_bars h; exact h.elim
  | succ n_ hK_140 =>
    intro x_3 s_p0_bars h
    replace h : w_X7_setSeeking_140s s_p0_things s_p0_goals s_p0_choices s_p0_hits s_p0_lineCount s_p0_lines s_p0_points Q (w_X7_setSeeking_140 s_p0_things s_p0_goals s_p0_choices s_p0_hits s_p0_lineCount s_p0_lines s_p0_points Q n_) x_3 s_p0_bars := h
    unfold w_X7_setSeeking_140s at h
    refine v_iload_n X 1 dX7_setSeeking_140 rfl rfl ?_
    refine v_aload_n X 0 dX7_setSeeking_141 rfl rfl ?_
    refine v_get X 0 14 (F := TX7) (N := 33) iX7_setSeeking_X7 rfl rfl (by decide) (List.mem_of_getElem? (i := 3) rfl) rfl rfl dX7_setSeeking_142 ?_
    refine v_icmp_ge X (tgt := 217) dX7_setSeeking_145 (by decide) (fun c_145 => ?_) (fun c_145 => ?_)
    · replace h := h.1 c_145
      exact r _ _ (s_p0_things, s_p0_goals, s_p0_bars, s_p0_choices, s_p0_hits) _ dX7_setSeeking_217 h rfl
    · replace h := h.2 c_145
      refine v_aload_n X 0 dX7_setSeeking_148 rfl rfl ?_
      refine v_get X 0 16 (F := TX7) (N := 33) iX7_setSeeking_X7 rfl rfl (by decide) (List.mem_of_getElem? (i := 8) rfl) rfl rfl dX7_setSeeking_149 ?_
      refine v_iload_n X 1 dX7_setSeeking_152 rfl rfl ?_
      refine v_lconst X dX7_setSeeking_153 (v := (1 : Int64)) (by decide) ?_
      refine v_iload_n X 1 dX7_setSeeking_154 rfl rfl ?_
      refine v_lshl X dX7_setSeeking_155 ?_
      refine v_last X (ws' := (cl_X7_setSeeking T o_p0 a_p0 s_p0_finding s_p0_asked s_p0_newPoints s_p0_newLines s_p0_faultAt s_p0_tries s_p0_things s_p0_goals s_p0_level (vp_updL s_p0_bars (x_3).toNatClampNeg (vshl (1 : Int64) x_3)) s_p0_choices s_p0_hits s_p0_lineCount s_p0_lines s_p0_points)) 1 1 rfl rfl h.1 rfl dX7_setSeeking_156 ?_
      replace h := h.2
      refine v_iconst X dX7_setSeeking_157 (v := (0 : Int32)) (by decide) ?_
      refine v_istore X (lv' := [(4, .int (0 : Int32)), (0, .ref o_p0), (3, .int x_3)]) dX7_setSeeking_158 (by decide) rfl ?_
      refine v_lv (lv' := [(0, .ref o_p0), (3, .int x_3), (4, .int (0 : Int32))]) [1, 2, 0] rfl ?_
      obtain ⟨n_, h⟩ := h
      exact k_X7_setSeeking_160 X r hK_140 n_ _ _ h
set_option maxHeartbeats 4000000 in
set_option maxRecDepth 100000 in
theorem k_X7_setSeeking_131 {E : vE} {T : Nat → ClassId} {o_p0 : Nat} {a_p0 : Nat → Nat} {s_p0_finding : Int32} {s_p0_asked : Int64} {s_p0_newPoints : Int32} {s_p0_newLines : Int32} {s_p0_faultAt : Int64} {s_p0_tries : Int32} {s_p0_things : Int32} {s_p0_goals : Int32} {s_p0_level : Int32} {s_p0_bars : Nat → Int64} {s_p0_choices : Nat → Int64} {s_p0_hits : Nat → Int64} {s_p0_lineCount : Nat → Int32} {s_p0_lines : Nat → Int64} {s_p0_points : Nat → Int32} {x_1 : Int32} {x_2 : Int32} {x_3 : Int32} {t_1 : Int32} {t_2 : Int64} {K_94 : (Int32) → (Nat → Int64) → Prop} {Q : (Int32) → (Int32) → (Nat → Int64) → (Nat → Int64) → (Nat → Int64) → Prop} (X : vX E cX7_setSeeking 5 RX7 wsX7_setSeeking (vT T) (vr 2 47)) (r : r_X7_setSeeking E T o_p0 a_p0 s_p0_finding s_p0_asked s_p0_newPoints s_p0_newLines s_p0_faultAt s_p0_tries s_p0_level s_p0_lineCount s_p0_lines s_p0_points Q) (hK_94 : ∀ (x_3' : Int32) (s_p0_choices' : Nat → Int64), K_94 x_3' s_p0_choices' → V E 0 0 94 [(0, .ref o_p0), (1, .int x_1), (2, .int x_2), (3, .int x_3')] [] (cl_X7_setSeeking T o_p0 a_p0 s_p0_finding s_p0_asked s_p0_newPoints s_p0_newLines s_p0_faultAt s_p0_tries s_p0_things s_p0_goals s_p0_level s_p0_bars s_p0_choices' s_p0_hits s_p0_lineCount s_p0_lines s_p0_points)) (h : w_X7_setSeeking_131 x_1 x_2 x_3 t_1 t_2 s_p0_things s_p0_goals s_p0_bars s_p0_choices s_p0_hits s_p0_lineCount s_p0_lines s_p0_points K_94 Q) : V E 0 0 131 [(0, .ref o_p0), (1, .int x_1), (2, .int x_2), (3, .int x_3)] [.long t_2, .int t_1, .ref (a_p0 18)] (cl_X7_setSeeking T o_p0 a_p0 s_p0_finding s_p0_asked s_p0_newPoints s_p0_newLines s_p0_faultAt s_p0_tries s_p0_things s_p0_goals s_p0_level s_p0_bars s_p0_choices s_p0_hits s_p0_lineCount s_p0_lines s_p0_points) := by
  unfold w_X7_setSeeking_131 at h
  refine v_last X (ws' := (cl_X7_setSeeking T o_p0 a_p0 s_p0_finding s_p0_asked s_p0_newPoints s_p0_newLines s_p0_faultAt s_p0_tries s_p0_things s_p0_goals s_p0_level s_p0_bars (vp_updL s_p0_choices (t_1).toNatClampNeg t_2) s_p0_hits s_p0_lineCount s_p0_lines s_p0_points)) 2 1 rfl rfl h.1 rfl dX7_setSeeking_131 ?_
  replace h := h.2
  refine v_iinc X (v := (x_3 + (1 : Int32))) (lv' := [(3, .int (x_3 + (1 : Int32))), (0, .ref o_p0), (1, .int x_1), (2, .int x_2)]) 3 dX7_setSeeking_132 rfl rfl (by decide) rfl ?_
  refine v_goto X (tgt := 94) dX7_setSeeking_135 (by decide) ?_
  refine v_lv (lv' := [(0, .ref o_p0), (1, .int x_1), (2, .int x_2), (3, .int (x_3 + (1 : Int32)))]) [1, 2, 3, 0] rfl ?_
  exact hK_94 _ _ h
set_option maxHeartbeats 4000000 in
set_option maxRecDepth 100000 in
theorem k_X7_setSeeking_94 {E : vE} {T : Nat → ClassId} {o_p0 : Nat} {a_p0 : Nat → Nat} {s_p0_finding : Int32} {s_p0_asked : Int64} {s_p0_newPoints : Int32} {s_p0_newLines : Int32} {s_p0_faultAt : Int64} {s_p0_tries : Int32} {s_p0_things : Int32} {s_p0_goals : Int32} {s_p0_level : Int32} {s_p0_bars : Nat → Int64} {s_p0_hits : Nat → Int64} {s_p0_lineCount : Nat → Int32} {s_p0_lines : Nat → Int64} {s_p0_points : Nat → Int32} {x_1 : Int32} {x_2 : Int32} {Q : (Int32) → (Int32) → (Nat → Int64) → (Nat → Int64) → (Nat → Int64) → Prop} (X : vX E cX7_setSeeking 5 RX7 wsX7_setSeeking (vT T) (vr 2 47)) (r : r_X7_setSeeking E T o_p0 a_p0 s_p0_finding s_p0_asked s_p0_newPoints s_p0_newLines s_p0_faultAt s_p0_tries s_p0_level s_p0_lineCount s_p0_lines s_p0_points Q) : ∀ (n_ : Nat) (x_3 : Int32) (s_p0_choices : Nat → Int64), w_X7_setSeeking_94 x_1 x_2 s_p0_things s_p0_goals s_p0_bars s_p0_hits s_p0_lineCount s_p0_lines s_p0_points Q n_ x_3 s_p0_choices → V E 0 0 94 [(0, .ref o_p0), (1, .int x_1), (2, .int x_2), (3, .int x_3)] [] (cl_X7_setSeeking T o_p0 a_p0 s_p0_finding s_p0_asked s_p0_newPoints s_p0_newLines s_p0_faultAt s_p0_tries s_p0_things s_p0_goals s_p0_level s_p0_bars s_p0_choices s_p0_hits s_p0_lineCount s_p0_lines s_p0_points) := by
  intro n_
  induction n_ with
  | zero => intro x_3 s_p0_choices h; exact h.elim
  | succ n_ hK_94 =>
    intro x_3 s_p0_choices h
    replace h : w_X7_setSeeking_94s x_1 x_2 s_p0_things s_p0_goals s_p0_bars s_p0_hits s_p0_lineCount s_p0_lines s_p0_points Q (w_X7_setSeeking_94 x_1 x_2 s_p0_things s_p0_goals s_p0_bars s_p0_hits s_p0_lineCount s_p0_lines s_p0_points Q n_) x_3 s_p0_choices := h
    unfold w_X7_setSeeking_94s at h
    refine v_iload_n X 3 dX7_setSeeking_94 rfl rfl ?_
    refine v_aload_n X 0 dX7_setSeeking_95 rfl rfl ?_
    refine v_get X 0 15 (F := TX7) (N := 33) iX7_setSeeking_X7 rfl rfl (by decide) (List.mem_of_getElem? (i := 4) rfl) rfl rfl dX7_setSeeking_96 ?_
    refine v_icmp_ge X (tgt := 138) dX7_setSeeking_99 (by decide) (fun c_99 => ?_) (fun c_99 => ?_)
    · replace h := h.1 c_99
      refine v_iconst X dX7_setSeeking_138 (v := (0 : Int32)) (by decide) ?_
      refine v_istore_n X (lv' := [(3, .int (0 : Int32)), (0, .ref o_p0), (1, .int x_1), (2, .int x_2)]) dX7_setSeeking_139 rfl (by decide) rfl ?_
      refine v_lv (lv' := [(0, .ref o_p0), (3, .int (0 : Int32))]) [1, 0] rfl ?_
      obtain ⟨n_, h⟩ := h
      exact k_X7_setSeeking_140 X r n_ _ _ h
    · replace h := h.2 c_99
      refine v_aload_n X 0 dX7_setSeeking_102 rfl rfl ?_
      refine v_get X 0 18 (F := TX7) (N := 33) iX7_setSeeking_X7 rfl rfl (by decide) (List.mem_of_getElem? (i := 7) rfl) rfl rfl dX7_setSeeking_103 ?_
      refine v_iload_n X 3 dX7_setSeeking_106 rfl rfl ?_
      refine v_iload_n X 2 dX7_setSeeking_107 rfl rfl ?_
      refine v_if_eq X (tgt := 125) dX7_setSeeking_108 (by decide) (fun c_108 => ?_) (fun c_108 => ?_)
      · replace h := h.1 c_108
        refine v_aload_n X 0 dX7_setSeeking_125 rfl rfl ?_
        refine v_iload_n X 1 dX7_setSeeking_126 rfl rfl ?_
        refine v_iload_n X 3 dX7_setSeeking_127 rfl rfl ?_
        refine v_callVl X (As := [.int x_1, .int x_3]) (rest := [.int x_3, .ref (a_p0 18)]) 2 0 (c_X7_through (l := vl E) (D := vD E) (T := T) (o_p0 := o_p0) (a_p0 := a_p0) (s_p0_finding := s_p0_finding) (s_p0_asked := s_p0_asked) (s_p0_newPoints := s_p0_newPoints) (s_p0_newLines := s_p0_newLines) (s_p0_faultAt := s_p0_faultAt) (s_p0_tries := s_p0_tries) (s_p0_things := s_p0_things) (s_p0_goals := s_p0_goals) (s_p0_level := s_p0_level) (s_p0_lineCount := s_p0_lineCount) (s_p0_lines := s_p0_lines) (x_1 := x_1) (x_2 := x_3) h) gX7_setSeeking_X7_through rfl rfl (by decide +kernel) ⟨Nat.zero_le _, Nat.zero_le _⟩ ⟨rfl, rfl, by decide, by decide⟩ (Nat.le_of_ble_eq_true rfl) rfl rfl (wr := [vJ T (a_p0 16) 45 s_p0_bars, vJ T (a_p0 18) 45 s_p0_choices, vJ T (a_p0 17) 45 s_p0_hits, vI T (a_p0 3) 6 s_p0_points]) [0, 4, 5] [1, 2, 3, 6] rfl rfl rfl rfl (by decide) rfl dX7_setSeeking_128 (fun r_128 u h => ?_)
        refine v_ws (ws' := (cl_X7_setSeeking T o_p0 a_p0 s_p0_finding s_p0_asked s_p0_newPoints s_p0_newLines s_p0_faultAt s_p0_tries s_p0_things s_p0_goals s_p0_level s_p0_bars s_p0_choices s_p0_hits s_p0_lineCount s_p0_lines s_p0_points)) [4, 0, 1, 2, 5, 6, 3] rfl rfl ?_
        exact k_X7_setSeeking_131 X r hK_94 h
      · replace h := h.2 c_108
        refine v_aload_n X 0 dX7_setSeeking_111 rfl rfl ?_
        refine v_get X 0 7 (F := TX7) (N := 33) iX7_setSeeking_X7 rfl rfl (by decide) (List.mem_of_getElem? (i := 6) rfl) rfl rfl dX7_setSeeking_112 ?_
        refine v_bipush X dX7_setSeeking_115 (v := (45 : Int32)) (by decide) ?_
        refine v_iload_n X 1 dX7_setSeeking_117 rfl rfl ?_
        refine v_imul X dX7_setSeeking_118 ?_
        refine v_iload_n X 3 dX7_setSeeking_119 rfl rfl ?_
        refine v_iadd X dX7_setSeeking_120 ?_
        refine v_lald X 5 1 rfl rfl h.1 dX7_setSeeking_121 ?_
        replace h := h.2
        refine v_goto X (tgt := 131) dX7_setSeeking_122 (by decide) ?_
        exact k_X7_setSeeking_131 X r hK_94 h
set_option maxHeartbeats 4000000 in
set_option maxRecDepth 100000 in
theorem k_X7_setSeeking_85 {E : vE} {T : Nat → ClassId} {o_p0 : Nat} {a_p0 : Nat → Nat} {s_p0_finding : Int32} {s_p0_asked : Int64} {s_p0_newPoints : Int32} {s_p0_newLines : Int32} {s_p0_faultAt : Int64} {s_p0_tries : Int32} {s_p0_things : Int32} {s_p0_goals : Int32} {s_p0_level : Int32} {s_p0_bars : Nat → Int64} {s_p0_choices : Nat → Int64} {s_p0_hits : Nat → Int64} {s_p0_lineCount : Nat → Int32} {s_p0_lines : Nat → Int64} {s_p0_points : Nat → Int32} {x_1 : Int32} {x_2 : Int32} {x_3 : Int32} {t_1 : Int32} {t_2 : Int64} {K_48 : (Int32) → (Nat → Int64) → Prop} {Q : (Int32) → (Int32) → (Nat → Int64) → (Nat → Int64) → (Nat → Int64) → Prop} (X : vX E cX7_setSeeking 5 RX7 wsX7_setSeeking (vT T) (vr 2 47)) (r : r_X7_setSeeking E T o_p0 a_p0 s_p0_finding s_p0_asked s_p0_newPoints s_p0_newLines s_p0_faultAt s_p0_tries s_p0_level s_p0_lineCount s_p0_lines s_p0_points Q) (hK_48 : ∀ (x_3' : Int32) (s_p0_hits' : Nat → Int64), K_48 x_3' s_p0_hits' → V E 0 0 48 [(0, .ref o_p0), (1, .int x_1), (2, .int x_2), (3, .int x_3')] [] (cl_X7_setSeeking T o_p0 a_p0 s_p0_finding s_p0_asked s_p0_newPoints s_p0_newLines s_p0_faultAt s_p0_tries s_p0_things s_p0_goals s_p0_level s_p0_bars s_p0_choices s_p0_hits' s_p0_lineCount s_p0_lines s_p0_points)) (h : w_X7_setSeeking_85 x_1 x_2 x_3 t_1 t_2 s_p0_things s_p0_goals s_p0_bars s_p0_choices s_p0_hits s_p0_lineCount s_p0_lines s_p0_points K_48 Q) : V E 0 0 85 [(0, .ref o_p0), (1, .int x_1), (2, .int x_2), (3, .int x_3)] [.long t_2, .int t_1, .ref (a_p0 17)] (cl_X7_setSeeking T o_p0 a_p0 s_p0_finding s_p0_asked s_p0_newPoints s_p0_newLines s_p0_faultAt s_p0_tries s_p0_things s_p0_goals s_p0_level s_p0_bars s_p0_choices s_p0_hits s_p0_lineCount s_p0_lines s_p0_points) := by
  unfold w_X7_setSeeking_85 at h
  refine v_last X (ws' := (cl_X7_setSeeking T o_p0 a_p0 s_p0_finding s_p0_asked s_p0_newPoints s_p0_newLines s_p0_faultAt s_p0_tries s_p0_things s_p0_goals s_p0_level s_p0_bars s_p0_choices (vp_updL s_p0_hits (t_1).toNatClampNeg t_2) s_p0_lineCount s_p0_lines s_p0_points)) 3 1 rfl rfl h.1 rfl dX7_setSeeking_85 ?_
  replace h := h.2
  refine v_iinc X (v := (x_3 + (1 : Int32))) (lv' := [(3, .int (x_3 + (1 : Int32))), (0, .ref o_p0), (1, .int x_1), (2, .int x_2)]) 3 dX7_setSeeking_86 rfl rfl (by decide) rfl ?_
  refine v_goto X (tgt := 48) dX7_setSeeking_89 (by decide) ?_
  refine v_lv (lv' := [(0, .ref o_p0), (1, .int x_1), (2, .int x_2), (3, .int (x_3 + (1 : Int32)))]) [1, 2, 3, 0] rfl ?_
  exact hK_48 _ _ h
set_option maxHeartbeats 4000000 in
set_option maxRecDepth 100000 in
theorem k_X7_setSeeking_48 {E : vE} {T : Nat → ClassId} {o_p0 : Nat} {a_p0 : Nat → Nat} {s_p0_finding : Int32} {s_p0_asked : Int64} {s_p0_newPoints : Int32} {s_p0_newLines : Int32} {s_p0_faultAt : Int64} {s_p0_tries : Int32} {s_p0_things : Int32} {s_p0_goals : Int32} {s_p0_level : Int32} {s_p0_bars : Nat → Int64} {s_p0_choices : Nat → Int64} {s_p0_lineCount : Nat → Int32} {s_p0_lines : Nat → Int64} {s_p0_points : Nat → Int32} {x_1 : Int32} {x_2 : Int32} {Q : (Int32) → (Int32) → (Nat → Int64) → (Nat → Int64) → (Nat → Int64) → Prop} (X : vX E cX7_setSeeking 5 RX7 wsX7_setSeeking (vT T) (vr 2 47)) (r : r_X7_setSeeking E T o_p0 a_p0 s_p0_finding s_p0_asked s_p0_newPoints s_p0_newLines s_p0_faultAt s_p0_tries s_p0_level s_p0_lineCount s_p0_lines s_p0_points Q) : ∀ (n_ : Nat) (x_3 : Int32) (s_p0_hits : Nat → Int64), w_X7_setSeeking_48 x_1 x_2 s_p0_things s_p0_goals s_p0_bars s_p0_choices s_p0_lineCount s_p0_lines s_p0_points Q n_ x_3 s_p0_hits → V E 0 0 48 [(0, .ref o_p0), (1, .int x_1), (2, .int x_2), (3, .int x_3)] [] (cl_X7_setSeeking T o_p0 a_p0 s_p0_finding s_p0_asked s_p0_newPoints s_p0_newLines s_p0_faultAt s_p0_tries s_p0_things s_p0_goals s_p0_level s_p0_bars s_p0_choices s_p0_hits s_p0_lineCount s_p0_lines s_p0_points) := by
  intro n_
  induction n_ with
  | zero => intro x_3 s_p0_hits h; exact h.elim
  | succ n_ hK_48 =>
    intro x_3 s_p0_hits h
    replace h : w_X7_setSeeking_48s x_1 x_2 s_p0_things s_p0_goals s_p0_bars s_p0_choices s_p0_lineCount s_p0_lines s_p0_points Q (w_X7_setSeeking_48 x_1 x_2 s_p0_things s_p0_goals s_p0_bars s_p0_choices s_p0_lineCount s_p0_lines s_p0_points Q n_) x_3 s_p0_hits := h
    unfold w_X7_setSeeking_48s at h
    refine v_iload_n X 3 dX7_setSeeking_48 rfl rfl ?_
    refine v_aload_n X 0 dX7_setSeeking_49 rfl rfl ?_
    refine v_get X 0 14 (F := TX7) (N := 33) iX7_setSeeking_X7 rfl rfl (by decide) (List.mem_of_getElem? (i := 3) rfl) rfl rfl dX7_setSeeking_50 ?_
    refine v_icmp_ge X (tgt := 92) dX7_setSeeking_53 (by decide) (fun c_53 => ?_) (fun c_53 => ?_)
    · replace h := h.1 c_53
      refine v_iconst X dX7_setSeeking_92 (v := (0 : Int32)) (by decide) ?_
      refine v_istore_n X (lv' := [(3, .int (0 : Int32)), (0, .ref o_p0), (1, .int x_1), (2, .int x_2)]) dX7_setSeeking_93 rfl (by decide) rfl ?_
      refine v_lv (lv' := [(0, .ref o_p0), (1, .int x_1), (2, .int x_2), (3, .int (0 : Int32))]) [1, 2, 3, 0] rfl ?_
      obtain ⟨n_, h⟩ := h
      exact k_X7_setSeeking_94 X r n_ _ _ h
    · replace h := h.2 c_53
      refine v_aload_n X 0 dX7_setSeeking_56 rfl rfl ?_
      refine v_get X 0 17 (F := TX7) (N := 33) iX7_setSeeking_X7 rfl rfl (by decide) (List.mem_of_getElem? (i := 5) rfl) rfl rfl dX7_setSeeking_57 ?_
      refine v_iload_n X 3 dX7_setSeeking_60 rfl rfl ?_
      refine v_iload_n X 2 dX7_setSeeking_61 rfl rfl ?_
      refine v_if_eq X (tgt := 74) dX7_setSeeking_62 (by decide) (fun c_62 => ?_) (fun c_62 => ?_)
      · replace h := h.1 c_62
        refine v_aload_n X 0 dX7_setSeeking_74 rfl rfl ?_
        refine v_get X 0 7 (F := TX7) (N := 33) iX7_setSeeking_X7 rfl rfl (by decide) (List.mem_of_getElem? (i := 6) rfl) rfl rfl dX7_setSeeking_75 ?_
        refine v_bipush X dX7_setSeeking_78 (v := (45 : Int32)) (by decide) ?_
        refine v_iload_n X 1 dX7_setSeeking_80 rfl rfl ?_
        refine v_imul X dX7_setSeeking_81 ?_
        refine v_iload_n X 3 dX7_setSeeking_82 rfl rfl ?_
        refine v_iadd X dX7_setSeeking_83 ?_
        refine v_lald X 5 1 rfl rfl h.1 dX7_setSeeking_84 ?_
        replace h := h.2
        exact k_X7_setSeeking_85 X r hK_48 h
      · replace h := h.2 c_62
        refine v_aload_n X 0 dX7_setSeeking_65 rfl rfl ?_
        refine v_iload_n X 1 dX7_setSeeking_66 rfl rfl ?_
        refine v_iload_n X 3 dX7_setSeeking_67 rfl rfl ?_
        refine v_callVl X (As := [.int x_1, .int x_3]) (rest := [.int x_3, .ref (a_p0 17)]) 2 0 (c_X7_through (l := vl E) (D := vD E) (T := T) (o_p0 := o_p0) (a_p0 := a_p0) (s_p0_finding := s_p0_finding) (s_p0_asked := s_p0_asked) (s_p0_newPoints := s_p0_newPoints) (s_p0_newLines := s_p0_newLines) (s_p0_faultAt := s_p0_faultAt) (s_p0_tries := s_p0_tries) (s_p0_things := s_p0_things) (s_p0_goals := s_p0_goals) (s_p0_level := s_p0_level) (s_p0_lineCount := s_p0_lineCount) (s_p0_lines := s_p0_lines) (x_1 := x_1) (x_2 := x_3) h) gX7_setSeeking_X7_through rfl rfl (by decide +kernel) ⟨Nat.zero_le _, Nat.zero_le _⟩ ⟨rfl, rfl, by decide, by decide⟩ (Nat.le_of_ble_eq_true rfl) rfl rfl (wr := [vJ T (a_p0 16) 45 s_p0_bars, vJ T (a_p0 18) 45 s_p0_choices, vJ T (a_p0 17) 45 s_p0_hits, vI T (a_p0 3) 6 s_p0_points]) [0, 4, 5] [1, 2, 3, 6] rfl rfl rfl rfl (by decide) rfl dX7_setSeeking_68 (fun r_68 u h => ?_)
        refine v_ws (ws' := (cl_X7_setSeeking T o_p0 a_p0 s_p0_finding s_p0_asked s_p0_newPoints s_p0_newLines s_p0_faultAt s_p0_tries s_p0_things s_p0_goals s_p0_level s_p0_bars s_p0_choices s_p0_hits s_p0_lineCount s_p0_lines s_p0_points)) [4, 0, 1, 2, 5, 6, 3] rfl rfl ?_
        refine v_goto X (tgt := 85) dX7_setSeeking_71 (by decide) ?_
        exact k_X7_setSeeking_85 X r hK_48 h
set_option maxHeartbeats 4000000 in
set_option maxRecDepth 100000 in
theorem k_X7_setSeeking_43 {E : vE} {T : Nat → ClassId} {o_p0 : Nat} {a_p0 : Nat → Nat} {s_p0_finding : Int32} {s_p0_asked : Int64} {s_p0_newPoints : Int32} {s_p0_newLines : Int32} {s_p0_faultAt : Int64} {s_p0_tries : Int32} {s_p0_things : Int32} {s_p0_goals : Int32} {s_p0_level : Int32} {s_p0_bars : Nat → Int64} {s_p0_choices : Nat → Int64} {s_p0_hits : Nat → Int64} {s_p0_lineCount : Nat → Int32} {s_p0_lines : Nat → Int64} {s_p0_points : Nat → Int32} {x_1 : Int32} {x_2 : Int32} {t_1 : Int32} {Q : (Int32) → (Int32) → (Nat → Int64) → (Nat → Int64) → (Nat → Int64) → Prop} (X : vX E cX7_setSeeking 5 RX7 wsX7_setSeeking (vT T) (vr 2 47)) (r : r_X7_setSeeking E T o_p0 a_p0 s_p0_finding s_p0_asked s_p0_newPoints s_p0_newLines s_p0_faultAt s_p0_tries s_p0_level s_p0_lineCount s_p0_lines s_p0_points Q) (h : w_X7_setSeeking_43 x_1 x_2 t_1 s_p0_things s_p0_goals s_p0_bars s_p0_choices s_p0_hits s_p0_lineCount s_p0_lines s_p0_points Q) : V E 0 0 43 [(0, .ref o_p0), (1, .int x_1), (2, .int x_2)] [.int t_1, .ref o_p0] (cl_X7_setSeeking T o_p0 a_p0 s_p0_finding s_p0_asked s_p0_newPoints s_p0_newLines s_p0_faultAt s_p0_tries s_p0_things s_p0_goals s_p0_level s_p0_bars s_p0_choices s_p0_hits s_p0_lineCount s_p0_lines s_p0_points) := by
  unfold w_X7_setSeeking_43 at h
  refine v_put X (ws' := (cl_X7_setSeeking T o_p0 a_p0 s_p0_finding s_p0_asked s_p0_newPoints s_p0_newLines s_p0_faultAt s_p0_tries s_p0_things t_1 s_p0_level s_p0_bars s_p0_choices s_p0_hits s_p0_lineCount s_p0_lines s_p0_points)) 0 15 (F := TX7) (N := 33) iX7_setSeeking_X7 rfl tyX7 tyX7_ok nmX7 rfl (by decide) (List.mem_of_getElem? (i := 4) rfl) rfl rfl rfl rfl rfl (Nat.le_of_ble_eq_true rfl) rfl dX7_setSeeking_43 ?_
  refine v_iconst X dX7_setSeeking_46 (v := (0 : Int32)) (by decide) ?_
  refine v_istore_n X (lv' := [(3, .int (0 : Int32)), (0, .ref o_p0), (1, .int x_1), (2, .int x_2)]) dX7_setSeeking_47 rfl (by decide) rfl ?_
  refine v_lv (lv' := [(0, .ref o_p0), (1, .int x_1), (2, .int x_2), (3, .int (0 : Int32))]) [1, 2, 3, 0] rfl ?_
  obtain ⟨n_, h⟩ := h
  exact k_X7_setSeeking_48 X r n_ _ _ h
set_option maxHeartbeats 4000000 in
set_option maxRecDepth 100000 in
theorem k_X7_setSeeking_20 {E : vE} {T : Nat → ClassId} {o_p0 : Nat} {a_p0 : Nat → Nat} {s_p0_finding : Int32} {s_p0_asked : Int64} {s_p0_newPoints : Int32} {s_p0_newLines : Int32} {s_p0_faultAt : Int64} {s_p0_tries : Int32} {s_p0_things : Int32} {s_p0_goals : Int32} {s_p0_level : Int32} {s_p0_bars : Nat → Int64} {s_p0_choices : Nat → Int64} {s_p0_hits : Nat → Int64} {s_p0_lineCount : Nat → Int32} {s_p0_lines : Nat → Int64} {s_p0_points : Nat → Int32} {x_1 : Int32} {x_2 : Int32} {t_1 : Int32} {Q : (Int32) → (Int32) → (Nat → Int64) → (Nat → Int64) → (Nat → Int64) → Prop} (X : vX E cX7_setSeeking 5 RX7 wsX7_setSeeking (vT T) (vr 2 47)) (r : r_X7_setSeeking E T o_p0 a_p0 s_p0_finding s_p0_asked s_p0_newPoints s_p0_newLines s_p0_faultAt s_p0_tries s_p0_level s_p0_lineCount s_p0_lines s_p0_points Q) (h : w_X7_setSeeking_20 x_1 x_2 t_1 s_p0_things s_p0_goals s_p0_bars s_p0_choices s_p0_hits s_p0_lineCount s_p0_lines s_p0_points Q) : V E 0 0 20 [(0, .ref o_p0), (1, .int x_1), (2, .int x_2)] [.int t_1, .ref o_p0] (cl_X7_setSeeking T o_p0 a_p0 s_p0_finding s_p0_asked s_p0_newPoints s_p0_newLines s_p0_faultAt s_p0_tries s_p0_things s_p0_goals s_p0_level s_p0_bars s_p0_choices s_p0_hits s_p0_lineCount s_p0_lines s_p0_points) := by
  unfold w_X7_setSeeking_20 at h
  refine v_put X (ws' := (cl_X7_setSeeking T o_p0 a_p0 s_p0_finding s_p0_asked s_p0_newPoints s_p0_newLines s_p0_faultAt s_p0_tries t_1 s_p0_goals s_p0_level s_p0_bars s_p0_choices s_p0_hits s_p0_lineCount s_p0_lines s_p0_points)) 0 14 (F := TX7) (N := 33) iX7_setSeeking_X7 rfl tyX7 tyX7_ok nmX7 rfl (by decide) (List.mem_of_getElem? (i := 3) rfl) rfl rfl rfl rfl rfl (Nat.le_of_ble_eq_true rfl) rfl dX7_setSeeking_20 ?_
  refine v_aload_n X 0 dX7_setSeeking_23 rfl rfl ?_
  refine v_iload_n X 2 dX7_setSeeking_24 rfl rfl ?_
  refine v_if_eq X (tgt := 37) dX7_setSeeking_25 (by decide) (fun c_25 => ?_) (fun c_25 => ?_)
  · replace h := h.1 c_25
    refine v_aload_n X 0 dX7_setSeeking_37 rfl rfl ?_
    refine v_get X 0 3 (F := TX7) (N := 33) iX7_setSeeking_X7 rfl rfl (by decide) (List.mem_of_getElem? (i := 1) rfl) rfl rfl dX7_setSeeking_38 ?_
    refine v_iload_n X 1 dX7_setSeeking_41 rfl rfl ?_
    refine v_iald X 6 0 rfl rfl h.1 dX7_setSeeking_42 ?_
    replace h := h.2
    exact k_X7_setSeeking_43 X r h
  · replace h := h.2 c_25
    refine v_aload_n X 0 dX7_setSeeking_28 rfl rfl ?_
    refine v_get X 0 4 (F := TX7) (N := 33) iX7_setSeeking_X7 rfl rfl (by decide) (List.mem_of_getElem? (i := 2) rfl) rfl rfl dX7_setSeeking_29 ?_
    refine v_iload_n X 1 dX7_setSeeking_32 rfl rfl ?_
    refine v_iald X 4 0 rfl rfl h.1 dX7_setSeeking_33 ?_
    replace h := h.2
    refine v_goto X (tgt := 43) dX7_setSeeking_34 (by decide) ?_
    exact k_X7_setSeeking_43 X r h
set_option maxHeartbeats 4000000 in
set_option maxRecDepth 100000 in
theorem c_X7_setSeeking {l : Launch} {D : va_G} {T : Nat → ClassId} {o_p0 : Nat} {a_p0 : Nat → Nat} {s_p0_finding : Int32} {s_p0_asked : Int64} {s_p0_newPoints : Int32} {s_p0_newLines : Int32} {s_p0_faultAt : Int64} {s_p0_tries : Int32} {s_p0_things : Int32} {s_p0_goals : Int32} {s_p0_level : Int32} {s_p0_bars : Nat → Int64} {s_p0_choices : Nat → Int64} {s_p0_hits : Nat → Int64} {s_p0_lineCount : Nat → Int32} {s_p0_lines : Nat → Int64} {s_p0_points : Nat → Int32} {x_1 : Int32} {x_2 : Int32} {Q : (Int32) → (Int32) → (Nat → Int64) → (Nat → Int64) → (Nat → Int64) → Prop} (h : w_X7_setSeeking x_1 x_2 s_p0_things s_p0_goals s_p0_bars s_p0_choices s_p0_hits s_p0_lineCount s_p0_lines s_p0_points Q) : vCv l D (vT T) yX7_setSeeking wsX7_setSeeking (vr 2 47) [.ref o_p0, .int x_1, .int x_2] (cl_X7_setSeeking T o_p0 a_p0 s_p0_finding s_p0_asked s_p0_newPoints s_p0_newLines s_p0_faultAt s_p0_tries s_p0_things s_p0_goals s_p0_level s_p0_bars s_p0_choices s_p0_hits s_p0_lineCount s_p0_lines s_p0_points) (fun (u : (Int32) × (Int32) × (Nat → Int64) × (Nat → Int64) × (Nat → Int64)) => Q u.1 u.2.1 u.2.2.1 u.2.2.2.1 u.2.2.2.2) (fun (u : (Int32) × (Int32) × (Nat → Int64) × (Nat → Int64) × (Nat → Int64)) => (cl_X7_setSeeking T o_p0 a_p0 s_p0_finding s_p0_asked s_p0_newPoints s_p0_newLines s_p0_faultAt s_p0_tries u.1 u.2.1 s_p0_level u.2.2.1 u.2.2.2.1 u.2.2.2.2 s_p0_lineCount s_p0_lines s_p0_points)) := by
  refine vC_v (cc := cX7_setSeeking) (nL := 5) (by decide +kernel) rfl ⟨rfl, rfl⟩ (Nat.le_of_ble_eq_true rfl) rfl ?_
  intro E el eD X r
  unfold w_X7_setSeeking at h
  refine v_aload_n X 0 dX7_setSeeking_0 rfl rfl ?_
  refine v_iload_n X 2 dX7_setSeeking_1 rfl rfl ?_
  refine v_if_eq X (tgt := 14) dX7_setSeeking_2 (by decide) (fun c_2 => ?_) (fun c_2 => ?_)
  · replace h := h.1 c_2
    refine v_aload_n X 0 dX7_setSeeking_14 rfl rfl ?_
    refine v_get X 0 4 (F := TX7) (N := 33) iX7_setSeeking_X7 rfl rfl (by decide) (List.mem_of_getElem? (i := 2) rfl) rfl rfl dX7_setSeeking_15 ?_
    refine v_iload_n X 1 dX7_setSeeking_18 rfl rfl ?_
    refine v_iald X 4 0 rfl rfl h.1 dX7_setSeeking_19 ?_
    replace h := h.2
    exact k_X7_setSeeking_20 X r h
  · replace h := h.2 c_2
    refine v_aload_n X 0 dX7_setSeeking_5 rfl rfl ?_
    refine v_get X 0 3 (F := TX7) (N := 33) iX7_setSeeking_X7 rfl rfl (by decide) (List.mem_of_getElem? (i := 1) rfl) rfl rfl dX7_setSeeking_6 ?_
    refine v_iload_n X 1 dX7_setSeeking_9 rfl rfl ?_
    refine v_iald X 6 0 rfl rfl h.1 dX7_setSeeking_10 ?_
    replace h := h.2
    refine v_goto X (tgt := 20) dX7_setSeeking_11 (by decide) ?_
    exact k_X7_setSeeking_20 X r h
-- X7_goalAt
abbrev cl_X7_goalAt (T : Nat → ClassId) (o_p0 : Nat) (a_p0 : Nat → Nat) (s_p0_finding : Int32) (s_p0_asked : Int64) (s_p0_newPoints : Int32) (s_p0_newLines : Int32) (s_p0_faultAt : Int64) (s_p0_tries : Int32) (s_p0_things : Int32) (s_p0_goals : Int32) (s_p0_level : Int32) (s_p0_met : Nat → Int64) : va_W := [vO o_p0 4 [.int s_p0_finding, .ref (a_p0 1), .long s_p0_asked, .ref (a_p0 3), .ref (a_p0 4), .ref (a_p0 5), .ref (a_p0 6), .ref (a_p0 7), .int s_p0_newPoints, .int s_p0_newLines, .ref (a_p0 10), .ref (a_p0 11), .long s_p0_faultAt, .int s_p0_tries, .int s_p0_things, .int s_p0_goals, .ref (a_p0 16), .ref (a_p0 17), .ref (a_p0 18), .ref (a_p0 19), .ref (a_p0 20), .ref (a_p0 21), .int s_p0_level, .ref (a_p0 23), .ref (a_p0 24), .ref (a_p0 25), .ref (a_p0 26), .ref (a_p0 27), .ref (a_p0 28), .ref (a_p0 29), .ref (a_p0 30), .ref (a_p0 31), .ref (a_p0 32)], vJ T (a_p0 21) 47 s_p0_met]
abbrev r_X7_goalAt (E : vE) (T : Nat → ClassId) (o_p0 : Nat) (a_p0 : Nat → Nat) (s_p0_finding : Int32) (s_p0_asked : Int64) (s_p0_newPoints : Int32) (s_p0_newLines : Int32) (s_p0_faultAt : Int64) (s_p0_tries : Int32) (s_p0_things : Int32) (s_p0_goals : Int32) (s_p0_level : Int32) (s_p0_met : Nat → Int64) (Q : Int32 → Prop) : Prop := vRi E cX7_goalAt (fun v (u : Unit) => Q v) (fun (u : Unit) => (cl_X7_goalAt T o_p0 a_p0 s_p0_finding s_p0_asked s_p0_newPoints s_p0_newLines s_p0_faultAt s_p0_tries s_p0_things s_p0_goals s_p0_level s_p0_met))
def w_X7_goalAt_32 (x_1 : Int32) (s_p0_goals : Int32) (s_p0_level : Int32) (s_p0_met : Nat → Int64) (Q : Int32 → Prop) : Prop := (Q x_1)
def w_X7_goalAt_2s (s_p0_goals : Int32) (s_p0_level : Int32) (s_p0_met : Nat → Int64) (Q : Int32 → Prop) (K_2 : (Int32) → Prop) (x_1 : Int32) : Prop := ((s_p0_goals ≤ x_1 → (w_X7_goalAt_32 x_1 s_p0_goals s_p0_level s_p0_met Q)) ∧ (¬ s_p0_goals ≤ x_1 → (vp_in s_p0_level 47 ∧ (w_X7_has (s_p0_met (s_p0_level).toNatClampNeg) x_1 (fun (r_20 : Int32) => ((r_20 = 0 → (w_X7_goalAt_32 x_1 s_p0_goals s_p0_level s_p0_met Q)) ∧ (¬ r_20 = 0 → (K_2 (x_1 + (1 : Int32))))))))))
def w_X7_goalAt_2 (s_p0_goals : Int32) (s_p0_level : Int32) (s_p0_met : Nat → Int64) (Q : Int32 → Prop) : Nat → (Int32) → Prop
  | 0 => fun _ => False
  | n_ + 1 => w_X7_goalAt_2s s_p0_goals s_p0_level s_p0_met Q (w_X7_goalAt_2 s_p0_goals s_p0_level s_p0_met Q n_)
def w_X7_goalAt (s_p0_goals : Int32) (s_p0_level : Int32) (s_p0_met : Nat → Int64) (Q : Int32 → Prop) : Prop := (∃ n_, w_X7_goalAt_2 s_p0_goals s_p0_level s_p0_met Q n_ (0 : Int32))
-- X7_goalAt
theorem iX7_goalAt_X7 : ∀ w ∈ wsX70, w ∈ wsX7_goalAt := by decide +kernel
set_option maxHeartbeats 4000000 in
set_option maxRecDepth 100000 in
theorem k_X7_goalAt_32 {E : vE} {T : Nat → ClassId} {o_p0 : Nat} {a_p0 : Nat → Nat} {s_p0_finding : Int32} {s_p0_asked : Int64} {s_p0_newPoints : Int32} {s_p0_newLines : Int32} {s_p0_faultAt : Int64} {s_p0_tries : Int32} {s_p0_things : Int32} {s_p0_goals : Int32} {s_p0_level : Int32} {s_p0_met : Nat → Int64} {x_1 : Int32} {Q : Int32 → Prop} (X : vX E cX7_goalAt 2 RX7 wsX7_goalAt (vT T) (vr 1 22)) (r : r_X7_goalAt E T o_p0 a_p0 s_p0_finding s_p0_asked s_p0_newPoints s_p0_newLines s_p0_faultAt s_p0_tries s_p0_things s_p0_goals s_p0_level s_p0_met Q) (h : w_X7_goalAt_32 x_1 s_p0_goals s_p0_level s_p0_met Q) : V E 0 0 32 [(1, .int x_1)] [] (cl_X7_goalAt T o_p0 a_p0 s_p0_finding s_p0_asked s_p0_newPoints s_p0_newLines s_p0_faultAt s_p0_tries s_p0_things s_p0_goals s_p0_level s_p0_met) := by
  unfold w_X7_goalAt_32 at h
  refine v_iload_n X 0 dX7_goalAt_32 rfl rfl ?_
  exact r _ _ _ () _ dX7_goalAt_33 h rfl
set_option maxHeartbeats 4000000 in
set_option maxRecDepth 100000 in
theorem k_X7_goalAt_2 {E : vE} {T : Nat → ClassId} {o_p0 : Nat} {a_p0 : Nat → Nat} {s_p0_finding : Int32} {s_p0_asked : Int64} {s_p0_newPoints : Int32} {s_p0_newLines : Int32} {s_p0_faultAt : Int64} {s_p0_tries : Int32} {s_p0_things : Int32} {s_p0_goals : Int32} {s_p0_level : Int32} {s_p0_met : Nat → Int64} {Q : Int32 → Prop} (X : vX E cX7_goalAt 2 RX7 wsX7_goalAt (vT T) (vr 1 22)) (r : r_X7_goalAt E T o_p0 a_p0 s_p0_finding s_p0_asked s_p0_newPoints s_p0_newLines s_p0_faultAt s_p0_tries s_p0_things s_p0_goals s_p0_level s_p0_met Q) : ∀ (n_ : Nat) (x_1 : Int32), w_X7_goalAt_2 s_p0_goals s_p0_level s_p0_met Q n_ x_1 → V E 0 0 2 [(0, .ref o_p0), (1, .int x_1)] [] (cl_X7_goalAt T o_p0 a_p0 s_p0_finding s_p0_asked s_p0_newPoints s_p0_newLines s_p0_faultAt s_p0_tries s_p0_things s_p0_goals s_p0_level s_p0_met) := by
  intro n_
  induction n_ with
  | zero => intro x_1 h; exact h.elim
  | succ n_ hK_2 =>
    intro x_1 h
    replace h : w_X7_goalAt_2s s_p0_goals s_p0_level s_p0_met Q (w_X7_goalAt_2 s_p0_goals s_p0_level s_p0_met Q n_) x_1 := h
    unfold w_X7_goalAt_2s at h
    refine v_iload_n X 1 dX7_goalAt_2 rfl rfl ?_
    refine v_aload_n X 0 dX7_goalAt_3 rfl rfl ?_
    refine v_get X 0 15 (F := TX7) (N := 33) iX7_goalAt_X7 rfl rfl (by decide) (List.mem_of_getElem? (i := 1) rfl) rfl rfl dX7_goalAt_4 ?_
    refine v_icmp_ge X (tgt := 32) dX7_goalAt_7 (by decide) (fun c_7 => ?_) (fun c_7 => ?_)
    · replace h := h.1 c_7
      refine v_lv (lv' := [(1, .int x_1)]) [1] rfl ?_
      exact k_X7_goalAt_32 X r h
    · replace h := h.2 c_7
      refine v_aload_n X 0 dX7_goalAt_10 rfl rfl ?_
      refine v_get X 0 21 (F := TX7) (N := 33) iX7_goalAt_X7 rfl rfl (by decide) (List.mem_of_getElem? (i := 2) rfl) rfl rfl dX7_goalAt_11 ?_
      refine v_aload_n X 0 dX7_goalAt_14 rfl rfl ?_
      refine v_get X 0 22 (F := TX7) (N := 33) iX7_goalAt_X7 rfl rfl (by decide) (List.mem_of_getElem? (i := 3) rfl) rfl rfl dX7_goalAt_15 ?_
      refine v_lald X 1 1 rfl rfl h.1 dX7_goalAt_18 ?_
      replace h := h.2
      refine v_iload_n X 1 dX7_goalAt_19 rfl rfl ?_
      refine v_callSi0 X (As := [.long (s_p0_met (s_p0_level).toNatClampNeg), .int x_1]) (rest := []) 2 (c_X7_has (l := vl E) (D := vD E) (T := T) (x_0 := (s_p0_met (s_p0_level).toNatClampNeg)) (x_2 := x_1) h) gX7_goalAt_X7_has rfl rfl (by decide +kernel) ⟨Nat.zero_le _, Nat.zero_le _⟩ ⟨rfl, rfl, by decide, by decide⟩ (Nat.le_of_ble_eq_true rfl) rfl dX7_goalAt_20 (fun r_20 h => ?_)
      refine v_if_eq X (tgt := 32) dX7_goalAt_23 (by decide) (fun c_23 => ?_) (fun c_23 => ?_)
      · replace h := h.1 c_23
        refine v_lv (lv' := [(1, .int x_1)]) [1] rfl ?_
        exact k_X7_goalAt_32 X r h
      · replace h := h.2 c_23
        refine v_iinc X (v := (x_1 + (1 : Int32))) (lv' := [(1, .int (x_1 + (1 : Int32))), (0, .ref o_p0)]) 1 dX7_goalAt_26 rfl rfl (by decide) rfl ?_
        refine v_goto X (tgt := 2) dX7_goalAt_29 (by decide) ?_
        refine v_lv (lv' := [(0, .ref o_p0), (1, .int (x_1 + (1 : Int32)))]) [1, 0] rfl ?_
        exact hK_2 _ h
set_option maxHeartbeats 4000000 in
set_option maxRecDepth 100000 in
theorem c_X7_goalAt {l : Launch} {D : va_G} {T : Nat → ClassId} {o_p0 : Nat} {a_p0 : Nat → Nat} {s_p0_finding : Int32} {s_p0_asked : Int64} {s_p0_newPoints : Int32} {s_p0_newLines : Int32} {s_p0_faultAt : Int64} {s_p0_tries : Int32} {s_p0_things : Int32} {s_p0_goals : Int32} {s_p0_level : Int32} {s_p0_met : Nat → Int64} {Q : Int32 → Prop} (h : w_X7_goalAt s_p0_goals s_p0_level s_p0_met Q) : vCi l D (vT T) yX7_goalAt wsX7_goalAt (vr 1 22) [.ref o_p0] (cl_X7_goalAt T o_p0 a_p0 s_p0_finding s_p0_asked s_p0_newPoints s_p0_newLines s_p0_faultAt s_p0_tries s_p0_things s_p0_goals s_p0_level s_p0_met) (fun v (u : Unit) => Q v) (fun (u : Unit) => (cl_X7_goalAt T o_p0 a_p0 s_p0_finding s_p0_asked s_p0_newPoints s_p0_newLines s_p0_faultAt s_p0_tries s_p0_things s_p0_goals s_p0_level s_p0_met)) := by
  refine vC_i (cc := cX7_goalAt) (nL := 2) (by decide +kernel) rfl ⟨rfl, rfl⟩ (Nat.le_of_ble_eq_true rfl) rfl ?_
  intro E el eD X r
  unfold w_X7_goalAt at h
  refine v_iconst X dX7_goalAt_0 (v := (0 : Int32)) (by decide) ?_
  refine v_istore_n X (lv' := [(1, .int (0 : Int32)), (0, .ref o_p0)]) dX7_goalAt_1 rfl (by decide) rfl ?_
  refine v_lv (lv' := [(0, .ref o_p0), (1, .int (0 : Int32))]) [1, 0] rfl ?_
  obtain ⟨n_, h⟩ := h
  exact k_X7_goalAt_2 X r n_ _ h
-- X7_next
abbrev cl_X7_next (T : Nat → ClassId) (o_p0 : Nat) (a_p0 : Nat → Nat) (s_p0_finding : Int32) (s_p0_asked : Int64) (s_p0_newPoints : Int32) (s_p0_newLines : Int32) (s_p0_faultAt : Int64) (s_p0_tries : Int32) (s_p0_things : Int32) (s_p0_goals : Int32) (s_p0_level : Int32) (s_p0_barred : Nat → Int64) (s_p0_bars : Nat → Int64) (s_p0_choices : Nat → Int64) (s_p0_hits : Nat → Int64) (s_p0_met : Nat → Int64) (s_p0_taken : Nat → Int32) : va_W := [vO o_p0 4 [.int s_p0_finding, .ref (a_p0 1), .long s_p0_asked, .ref (a_p0 3), .ref (a_p0 4), .ref (a_p0 5), .ref (a_p0 6), .ref (a_p0 7), .int s_p0_newPoints, .int s_p0_newLines, .ref (a_p0 10), .ref (a_p0 11), .long s_p0_faultAt, .int s_p0_tries, .int s_p0_things, .int s_p0_goals, .ref (a_p0 16), .ref (a_p0 17), .ref (a_p0 18), .ref (a_p0 19), .ref (a_p0 20), .ref (a_p0 21), .int s_p0_level, .ref (a_p0 23), .ref (a_p0 24), .ref (a_p0 25), .ref (a_p0 26), .ref (a_p0 27), .ref (a_p0 28), .ref (a_p0 29), .ref (a_p0 30), .ref (a_p0 31), .ref (a_p0 32)], vJ T (a_p0 20) 47 s_p0_barred, vJ T (a_p0 16) 45 s_p0_bars, vJ T (a_p0 18) 45 s_p0_choices, vJ T (a_p0 17) 45 s_p0_hits, vJ T (a_p0 21) 47 s_p0_met, vI T (a_p0 19) 46 s_p0_taken]
abbrev r_X7_next (E : vE) (T : Nat → ClassId) (o_p0 : Nat) (a_p0 : Nat → Nat) (s_p0_finding : Int32) (s_p0_asked : Int64) (s_p0_newPoints : Int32) (s_p0_newLines : Int32) (s_p0_faultAt : Int64) (s_p0_things : Int32) (s_p0_goals : Int32) (s_p0_bars : Nat → Int64) (s_p0_choices : Nat → Int64) (s_p0_hits : Nat → Int64) (Q : Int32 → (Int32) → (Int32) → (Nat → Int64) → (Nat → Int64) → (Nat → Int32) → Prop) : Prop := vRi E cX7_next (fun v (u : (Int32) × (Int32) × (Nat → Int64) × (Nat → Int64) × (Nat → Int32)) => Q v u.1 u.2.1 u.2.2.1 u.2.2.2.1 u.2.2.2.2) (fun (u : (Int32) × (Int32) × (Nat → Int64) × (Nat → Int64) × (Nat → Int32)) => (cl_X7_next T o_p0 a_p0 s_p0_finding s_p0_asked s_p0_newPoints s_p0_newLines s_p0_faultAt u.1 s_p0_things s_p0_goals u.2.1 u.2.2.1 s_p0_bars s_p0_choices s_p0_hits u.2.2.2.1 u.2.2.2.2))
def w_X7_next_124 (x_2 : Int32) (x_4 : Int32) (s_p0_tries : Int32) (s_p0_things : Int32) (s_p0_goals : Int32) (s_p0_level : Int32) (s_p0_barred : Nat → Int64) (s_p0_bars : Nat → Int64) (s_p0_choices : Nat → Int64) (s_p0_hits : Nat → Int64) (s_p0_met : Nat → Int64) (s_p0_taken : Nat → Int32) (K_43 : (Int32) → (Int32) → (Nat → Int64) → (Nat → Int64) → (Nat → Int32) → Prop) (Q : Int32 → (Int32) → (Int32) → (Nat → Int64) → (Nat → Int64) → (Nat → Int32) → Prop) : Prop := ((¬ x_4 = s_p0_things → ((¬ s_p0_tries = x_2 → (vp_in s_p0_level 46 ∧ (vp_in s_p0_level 47 ∧ (vp_in x_4 45 ∧ (vp_in (s_p0_level + (1 : Int32)) 47 ∧ (vp_in s_p0_level 47 ∧ (vp_in x_4 45 ∧ (vp_in (s_p0_level + (1 : Int32)) 47 ∧ (vp_in (s_p0_level + (1 : Int32)) 46 ∧ (K_43 (s_p0_tries + (1 : Int32)) (s_p0_level + (1 : Int32)) (vp_updL s_p0_barred ((s_p0_level + (1 : Int32))).toNatClampNeg ((s_p0_barred (s_p0_level).toNatClampNeg) ||| (s_p0_bars (x_4).toNatClampNeg))) (vp_updL s_p0_met ((s_p0_level + (1 : Int32))).toNatClampNeg ((s_p0_met (s_p0_level).toNatClampNeg) ||| (s_p0_hits (x_4).toNatClampNeg))) (upd (upd s_p0_taken (s_p0_level).toNatClampNeg x_4) ((s_p0_level + (1 : Int32))).toNatClampNeg (-1 : Int32)))))))))))) ∧ (s_p0_tries = x_2 → (Q (-6 : Int32) s_p0_tries s_p0_level s_p0_barred s_p0_met s_p0_taken)))) ∧ (x_4 = s_p0_things → (K_43 s_p0_tries (s_p0_level - (1 : Int32)) s_p0_barred s_p0_met s_p0_taken)))
def w_X7_next_118 (x_2 : Int32) (x_3 : Int32) (x_4 : Int32) (s_p0_tries : Int32) (s_p0_things : Int32) (s_p0_goals : Int32) (s_p0_level : Int32) (s_p0_barred : Nat → Int64) (s_p0_bars : Nat → Int64) (s_p0_choices : Nat → Int64) (s_p0_hits : Nat → Int64) (s_p0_met : Nat → Int64) (s_p0_taken : Nat → Int32) (K_43 : (Int32) → (Int32) → (Nat → Int64) → (Nat → Int64) → (Nat → Int32) → Prop) (K_78 : (Int32) → Prop) (Q : Int32 → (Int32) → (Int32) → (Nat → Int64) → (Nat → Int64) → (Nat → Int32) → Prop) : Prop := (K_78 (x_4 + (1 : Int32)))
def w_X7_next_78s (x_2 : Int32) (x_3 : Int32) (s_p0_tries : Int32) (s_p0_things : Int32) (s_p0_goals : Int32) (s_p0_level : Int32) (s_p0_barred : Nat → Int64) (s_p0_bars : Nat → Int64) (s_p0_choices : Nat → Int64) (s_p0_hits : Nat → Int64) (s_p0_met : Nat → Int64) (s_p0_taken : Nat → Int32) (K_43 : (Int32) → (Int32) → (Nat → Int64) → (Nat → Int64) → (Nat → Int32) → Prop) (Q : Int32 → (Int32) → (Int32) → (Nat → Int64) → (Nat → Int64) → (Nat → Int32) → Prop) (K_78 : (Int32) → Prop) (x_4 : Int32) : Prop := ((s_p0_things ≤ x_4 → (w_X7_next_124 x_2 x_4 s_p0_tries s_p0_things s_p0_goals s_p0_level s_p0_barred s_p0_bars s_p0_choices s_p0_hits s_p0_met s_p0_taken K_43 Q)) ∧ (¬ s_p0_things ≤ x_4 → (vp_in x_3 45 ∧ (w_X7_has (s_p0_choices (x_3).toNatClampNeg) x_4 (fun (r_95 : Int32) => ((r_95 = 0 → (w_X7_next_118 x_2 x_3 x_4 s_p0_tries s_p0_things s_p0_goals s_p0_level s_p0_barred s_p0_bars s_p0_choices s_p0_hits s_p0_met s_p0_taken K_43 K_78 Q)) ∧ (¬ r_95 = 0 → (vp_in s_p0_level 47 ∧ (w_X7_has (s_p0_barred (s_p0_level).toNatClampNeg) x_4 (fun (r_112 : Int32) => ((r_112 = 0 → (w_X7_next_124 x_2 x_4 s_p0_tries s_p0_things s_p0_goals s_p0_level s_p0_barred s_p0_bars s_p0_choices s_p0_hits s_p0_met s_p0_taken K_43 Q)) ∧ (¬ r_112 = 0 → (w_X7_next_118 x_2 x_3 x_4 s_p0_tries s_p0_things s_p0_goals s_p0_level s_p0_barred s_p0_bars s_p0_choices s_p0_hits s_p0_met s_p0_taken K_43 K_78 Q)))))))))))))
def w_X7_next_78 (x_2 : Int32) (x_3 : Int32) (s_p0_tries : Int32) (s_p0_things : Int32) (s_p0_goals : Int32) (s_p0_level : Int32) (s_p0_barred : Nat → Int64) (s_p0_bars : Nat → Int64) (s_p0_choices : Nat → Int64) (s_p0_hits : Nat → Int64) (s_p0_met : Nat → Int64) (s_p0_taken : Nat → Int32) (K_43 : (Int32) → (Int32) → (Nat → Int64) → (Nat → Int64) → (Nat → Int32) → Prop) (Q : Int32 → (Int32) → (Int32) → (Nat → Int64) → (Nat → Int64) → (Nat → Int32) → Prop) : Nat → (Int32) → Prop
  | 0 => fun _ => False
  | n_ + 1 => w_X7_next_78s x_2 x_3 s_p0_tries s_p0_things s_p0_goals s_p0_level s_p0_barred s_p0_bars s_p0_choices s_p0_hits s_p0_met s_p0_taken K_43 Q (w_X7_next_78 x_2 x_3 s_p0_tries s_p0_things s_p0_goals s_p0_level s_p0_barred s_p0_bars s_p0_choices s_p0_hits s_p0_met s_p0_taken K_43 Q n_)
def w_X7_next_43s (x_2 : Int32) (s_p0_things : Int32) (s_p0_goals : Int32) (s_p0_bars : Nat → Int64) (s_p0_choices : Nat → Int64) (s_p0_hits : Nat → Int64) (Q : Int32 → (Int32) → (Int32) → (Nat → Int64) → (Nat → Int64) → (Nat → Int32) → Prop) (K_43 : (Int32) → (Int32) → (Nat → Int64) → (Nat → Int64) → (Nat → Int32) → Prop) (s_p0_tries : Int32) (s_p0_level : Int32) (s_p0_barred : Nat → Int64) (s_p0_met : Nat → Int64) (s_p0_taken : Nat → Int32) : Prop := ((s_p0_level < 0 → (Q (0 : Int32) s_p0_tries s_p0_level s_p0_barred s_p0_met s_p0_taken)) ∧ (¬ s_p0_level < 0 → (w_X7_goalAt s_p0_goals s_p0_level s_p0_met (fun (r_51 : Int32) => ((¬ r_51 = s_p0_goals → (vp_in s_p0_level 46 ∧ (∃ n_, w_X7_next_78 x_2 r_51 s_p0_tries s_p0_things s_p0_goals s_p0_level s_p0_barred s_p0_bars s_p0_choices s_p0_hits s_p0_met s_p0_taken K_43 Q n_ ((s_p0_taken (s_p0_level).toNatClampNeg) + (1 : Int32))))) ∧ (r_51 = s_p0_goals → (Q (1 : Int32) s_p0_tries s_p0_level s_p0_barred s_p0_met s_p0_taken)))))))
def w_X7_next_43 (x_2 : Int32) (s_p0_things : Int32) (s_p0_goals : Int32) (s_p0_bars : Nat → Int64) (s_p0_choices : Nat → Int64) (s_p0_hits : Nat → Int64) (Q : Int32 → (Int32) → (Int32) → (Nat → Int64) → (Nat → Int64) → (Nat → Int32) → Prop) : Nat → (Int32) → (Int32) → (Nat → Int64) → (Nat → Int64) → (Nat → Int32) → Prop
  | 0 => fun _ _ _ _ _ => False
  | n_ + 1 => w_X7_next_43s x_2 s_p0_things s_p0_goals s_p0_bars s_p0_choices s_p0_hits Q (w_X7_next_43 x_2 s_p0_things s_p0_goals s_p0_bars s_p0_choices s_p0_hits Q n_)
def w_X7_next (x_1 : Int32) (x_2 : Int32) (s_p0_tries : Int32) (s_p0_things : Int32) (s_p0_goals : Int32) (s_p0_level : Int32) (s_p0_barred : Nat → Int64) (s_p0_bars : Nat → Int64) (s_p0_choices : Nat → Int64) (s_p0_hits : Nat → Int64) (s_p0_met : Nat → Int64) (s_p0_taken : Nat → Int32) (Q : Int32 → (Int32) → (Int32) → (Nat → Int64) → (Nat → Int64) → (Nat → Int32) → Prop) : Prop := ((x_1 = 0 → (∃ n_, w_X7_next_43 x_2 s_p0_things s_p0_goals s_p0_bars s_p0_choices s_p0_hits Q n_ s_p0_tries (s_p0_level - (1 : Int32)) s_p0_barred s_p0_met s_p0_taken)) ∧ (¬ x_1 = 0 → (vp_in (0 : Int32) 47 ∧ (vp_in (0 : Int32) 47 ∧ (vp_in (0 : Int32) 46 ∧ (∃ n_, w_X7_next_43 x_2 s_p0_things s_p0_goals s_p0_bars s_p0_choices s_p0_hits Q n_ s_p0_tries (0 : Int32) (vp_updL s_p0_barred ((0 : Int32)).toNatClampNeg (0 : Int64)) (vp_updL s_p0_met ((0 : Int32)).toNatClampNeg (0 : Int64)) (upd s_p0_taken ((0 : Int32)).toNatClampNeg (-1 : Int32))))))))
-- X7_next
theorem iX7_next_X7 : ∀ w ∈ wsX70, w ∈ wsX7_next := by decide +kernel
set_option maxHeartbeats 4000000 in
set_option maxRecDepth 100000 in
theorem k_X7_next_124 {E : vE} {T : Nat → ClassId} {o_p0 : Nat} {a_p0 : Nat → Nat} {s_p0_finding : Int32} {s_p0_asked : Int64} {s_p0_newPoints : Int32} {s_p0_newLines : Int32} {s_p0_faultAt : Int64} {s_p0_tries : Int32} {s_p0_things : Int32} {s_p0_goals : Int32} {s_p0_level : Int32} {s_p0_barred : Nat → Int64} {s_p0_bars : Nat → Int64} {s_p0_choices : Nat → Int64} {s_p0_hits : Nat → Int64} {s_p0_met : Nat → Int64} {s_p0_taken : Nat → Int32} {x_2 : Int32} {x_4 : Int32} {K_43 : (Int32) → (Int32) → (Nat → Int64) → (Nat → Int64) → (Nat → Int32) → Prop} {Q : Int32 → (Int32) → (Int32) → (Nat → Int64) → (Nat → Int64) → (Nat → Int32) → Prop} (X : vX E cX7_next 5 RX7 wsX7_next (vT T) (vr 2 43)) (r : r_X7_next E T o_p0 a_p0 s_p0_finding s_p0_asked s_p0_newPoints s_p0_newLines s_p0_faultAt s_p0_things s_p0_goals s_p0_bars s_p0_choices s_p0_hits Q) (hK_43 : ∀ (s_p0_tries' : Int32) (s_p0_level' : Int32) (s_p0_barred' : Nat → Int64) (s_p0_met' : Nat → Int64) (s_p0_taken' : Nat → Int32), K_43 s_p0_tries' s_p0_level' s_p0_barred' s_p0_met' s_p0_taken' → V E 0 0 43 [(0, .ref o_p0), (2, .int x_2)] [] (cl_X7_next T o_p0 a_p0 s_p0_finding s_p0_asked s_p0_newPoints s_p0_newLines s_p0_faultAt s_p0_tries' s_p0_things s_p0_goals s_p0_level' s_p0_barred' s_p0_bars s_p0_choices s_p0_hits s_p0_met' s_p0_taken')) (h : w_X7_next_124 x_2 x_4 s_p0_tries s_p0_things s_p0_goals s_p0_level s_p0_barred s_p0_bars s_p0_choices s_p0_hits s_p0_met s_p0_taken K_43 Q) : V E 0 0 124 [(0, .ref o_p0), (2, .int x_2), (4, .int x_4)] [] (cl_X7_next T o_p0 a_p0 s_p0_finding s_p0_asked s_p0_newPoints s_p0_newLines s_p0_faultAt s_p0_tries s_p0_things s_p0_goals s_p0_level s_p0_barred s_p0_bars s_p0_choices s_p0_hits s_p0_met s_p0_taken) := by
  unfold w_X7_next_124 at h
  refine v_iload X 2 dX7_next_124 rfl ?_
  refine v_aload_n X 0 dX7_next_126 rfl rfl ?_
  refine v_get X 0 14 (F := TX7) (N := 33) iX7_next_X7 rfl rfl (by decide) (List.mem_of_getElem? (i := 6) rfl) rfl rfl dX7_next_127 ?_
  refine v_icmp_ne X (tgt := 146) dX7_next_130 (by decide) (fun c_130 => ?_) (fun c_130 => ?_)
  · replace h := h.1 c_130
    refine v_aload_n X 0 dX7_next_146 rfl rfl ?_
    refine v_get X 0 13 (F := TX7) (N := 33) iX7_next_X7 rfl rfl (by decide) (List.mem_of_getElem? (i := 8) rfl) rfl rfl dX7_next_147 ?_
    refine v_iload_n X 1 dX7_next_150 rfl rfl ?_
    refine v_icmp_ne X (tgt := 157) dX7_next_151 (by decide) (fun c_151 => ?_) (fun c_151 => ?_)
    · replace h := h.1 c_151
      refine v_aload_n X 0 dX7_next_157 rfl rfl ?_
      refine v_dup X dX7_next_158 rfl ?_
      refine v_get X 0 13 (F := TX7) (N := 33) iX7_next_X7 rfl rfl (by decide) (List.mem_of_getElem? (i := 8) rfl) rfl rfl dX7_next_159 ?_
      refine v_iconst X dX7_next_162 (v := (1 : Int32)) (by decide) ?_
      refine v_iadd X dX7_next_163 ?_
      refine v_put X (ws' := (cl_X7_next T o_p0 a_p0 s_p0_finding s_p0_asked s_p0_newPoints s_p0_newLines s_p0_faultAt (s_p0_tries + (1 : Int32)) s_p0_things s_p0_goals s_p0_level s_p0_barred s_p0_bars s_p0_choices s_p0_hits s_p0_met s_p0_taken)) 0 13 (F := TX7) (N := 33) iX7_next_X7 rfl tyX7 tyX7_ok nmX7 rfl (by decide) (List.mem_of_getElem? (i := 8) rfl) rfl rfl rfl rfl rfl (Nat.le_of_ble_eq_true rfl) rfl dX7_next_164 ?_
      refine v_aload_n X 0 dX7_next_167 rfl rfl ?_
      refine v_get X 0 19 (F := TX7) (N := 33) iX7_next_X7 rfl rfl (by decide) (List.mem_of_getElem? (i := 4) rfl) rfl rfl dX7_next_168 ?_
      refine v_aload_n X 0 dX7_next_171 rfl rfl ?_
      refine v_get X 0 22 (F := TX7) (N := 33) iX7_next_X7 rfl rfl (by decide) (List.mem_of_getElem? (i := 1) rfl) rfl rfl dX7_next_172 ?_
      refine v_iload X 2 dX7_next_175 rfl ?_
      refine v_iast X (ws' := (cl_X7_next T o_p0 a_p0 s_p0_finding s_p0_asked s_p0_newPoints s_p0_newLines s_p0_faultAt (s_p0_tries + (1 : Int32)) s_p0_things s_p0_goals s_p0_level s_p0_barred s_p0_bars s_p0_choices s_p0_hits s_p0_met (upd s_p0_taken (s_p0_level).toNatClampNeg x_4))) 6 0 rfl rfl h.1 rfl dX7_next_177 ?_
      replace h := h.2
      refine v_aload_n X 0 dX7_next_178 rfl rfl ?_
      refine v_get X 0 20 (F := TX7) (N := 33) iX7_next_X7 rfl rfl (by decide) (List.mem_of_getElem? (i := 2) rfl) rfl rfl dX7_next_179 ?_
      refine v_aload_n X 0 dX7_next_182 rfl rfl ?_
      refine v_get X 0 22 (F := TX7) (N := 33) iX7_next_X7 rfl rfl (by decide) (List.mem_of_getElem? (i := 1) rfl) rfl rfl dX7_next_183 ?_
      refine v_iconst X dX7_next_186 (v := (1 : Int32)) (by decide) ?_
      refine v_iadd X dX7_next_187 ?_
      refine v_aload_n X 0 dX7_next_188 rfl rfl ?_
      refine v_get X 0 20 (F := TX7) (N := 33) iX7_next_X7 rfl rfl (by decide) (List.mem_of_getElem? (i := 2) rfl) rfl rfl dX7_next_189 ?_
      refine v_aload_n X 0 dX7_next_192 rfl rfl ?_
      refine v_get X 0 22 (F := TX7) (N := 33) iX7_next_X7 rfl rfl (by decide) (List.mem_of_getElem? (i := 1) rfl) rfl rfl dX7_next_193 ?_
      refine v_lald X 1 1 rfl rfl h.1 dX7_next_196 ?_
      replace h := h.2
      refine v_aload_n X 0 dX7_next_197 rfl rfl ?_
      refine v_get X 0 16 (F := TX7) (N := 33) iX7_next_X7 rfl rfl (by decide) (List.mem_of_getElem? (i := 9) rfl) rfl rfl dX7_next_198 ?_
      refine v_iload X 2 dX7_next_201 rfl ?_
      refine v_lald X 2 1 rfl rfl h.1 dX7_next_203 ?_
      replace h := h.2
      refine v_lor X dX7_next_204 ?_
      refine v_last X (ws' := (cl_X7_next T o_p0 a_p0 s_p0_finding s_p0_asked s_p0_newPoints s_p0_newLines s_p0_faultAt (s_p0_tries + (1 : Int32)) s_p0_things s_p0_goals s_p0_level (vp_updL s_p0_barred ((s_p0_level + (1 : Int32))).toNatClampNeg ((s_p0_barred (s_p0_level).toNatClampNeg) ||| (s_p0_bars (x_4).toNatClampNeg))) s_p0_bars s_p0_choices s_p0_hits s_p0_met (upd s_p0_taken (s_p0_level).toNatClampNeg x_4))) 1 1 rfl rfl h.1 rfl dX7_next_205 ?_
      replace h := h.2
      refine v_aload_n X 0 dX7_next_206 rfl rfl ?_
      refine v_get X 0 21 (F := TX7) (N := 33) iX7_next_X7 rfl rfl (by decide) (List.mem_of_getElem? (i := 3) rfl) rfl rfl dX7_next_207 ?_
      refine v_aload_n X 0 dX7_next_210 rfl rfl ?_
      refine v_get X 0 22 (F := TX7) (N := 33) iX7_next_X7 rfl rfl (by decide) (List.mem_of_getElem? (i := 1) rfl) rfl rfl dX7_next_211 ?_
      refine v_iconst X dX7_next_214 (v := (1 : Int32)) (by decide) ?_
      refine v_iadd X dX7_next_215 ?_
      refine v_aload_n X 0 dX7_next_216 rfl rfl ?_
      refine v_get X 0 21 (F := TX7) (N := 33) iX7_next_X7 rfl rfl (by decide) (List.mem_of_getElem? (i := 3) rfl) rfl rfl dX7_next_217 ?_
      refine v_aload_n X 0 dX7_next_220 rfl rfl ?_
      refine v_get X 0 22 (F := TX7) (N := 33) iX7_next_X7 rfl rfl (by decide) (List.mem_of_getElem? (i := 1) rfl) rfl rfl dX7_next_221 ?_
      refine v_lald X 5 1 rfl rfl h.1 dX7_next_224 ?_
      replace h := h.2
      refine v_aload_n X 0 dX7_next_225 rfl rfl ?_
      refine v_get X 0 17 (F := TX7) (N := 33) iX7_next_X7 rfl rfl (by decide) (List.mem_of_getElem? (i := 10) rfl) rfl rfl dX7_next_226 ?_
      refine v_iload X 2 dX7_next_229 rfl ?_
      refine v_lald X 4 1 rfl rfl h.1 dX7_next_231 ?_
      replace h := h.2
      refine v_lor X dX7_next_232 ?_
      refine v_last X (ws' := (cl_X7_next T o_p0 a_p0 s_p0_finding s_p0_asked s_p0_newPoints s_p0_newLines s_p0_faultAt (s_p0_tries + (1 : Int32)) s_p0_things s_p0_goals s_p0_level (vp_updL s_p0_barred ((s_p0_level + (1 : Int32))).toNatClampNeg ((s_p0_barred (s_p0_level).toNatClampNeg) ||| (s_p0_bars (x_4).toNatClampNeg))) s_p0_bars s_p0_choices s_p0_hits (vp_updL s_p0_met ((s_p0_level + (1 : Int32))).toNatClampNeg ((s_p0_met (s_p0_level).toNatClampNeg) ||| (s_p0_hits (x_4).toNatClampNeg))) (upd s_p0_taken (s_p0_level).toNatClampNeg x_4))) 5 1 rfl rfl h.1 rfl dX7_next_233 ?_
      replace h := h.2
      refine v_aload_n X 0 dX7_next_234 rfl rfl ?_
      refine v_dup X dX7_next_235 rfl ?_
      refine v_get X 0 22 (F := TX7) (N := 33) iX7_next_X7 rfl rfl (by decide) (List.mem_of_getElem? (i := 1) rfl) rfl rfl dX7_next_236 ?_
      refine v_iconst X dX7_next_239 (v := (1 : Int32)) (by decide) ?_
      refine v_iadd X dX7_next_240 ?_
      refine v_put X (ws' := (cl_X7_next T o_p0 a_p0 s_p0_finding s_p0_asked s_p0_newPoints s_p0_newLines s_p0_faultAt (s_p0_tries + (1 : Int32)) s_p0_things s_p0_goals (s_p0_level + (1 : Int32)) (vp_updL s_p0_barred ((s_p0_level + (1 : Int32))).toNatClampNeg ((s_p0_barred (s_p0_level).toNatClampNeg) ||| (s_p0_bars (x_4).toNatClampNeg))) s_p0_bars s_p0_choices s_p0_hits (vp_updL s_p0_met ((s_p0_level + (1 : Int32))).toNatClampNeg ((s_p0_met (s_p0_level).toNatClampNeg) ||| (s_p0_hits (x_4).toNatClampNeg))) (upd s_p0_taken (s_p0_level).toNatClampNeg x_4))) 0 22 (F := TX7) (N := 33) iX7_next_X7 rfl tyX7 tyX7_ok nmX7 rfl (by decide) (List.mem_of_getElem? (i := 1) rfl) rfl rfl rfl rfl rfl (Nat.le_of_ble_eq_true rfl) rfl dX7_next_241 ?_
      refine v_aload_n X 0 dX7_next_244 rfl rfl ?_
      refine v_get X 0 19 (F := TX7) (N := 33) iX7_next_X7 rfl rfl (by decide) (List.mem_of_getElem? (i := 4) rfl) rfl rfl dX7_next_245 ?_
      refine v_aload_n X 0 dX7_next_248 rfl rfl ?_
      refine v_get X 0 22 (F := TX7) (N := 33) iX7_next_X7 rfl rfl (by decide) (List.mem_of_getElem? (i := 1) rfl) rfl rfl dX7_next_249 ?_
      refine v_iconst X dX7_next_252 (v := (-1 : Int32)) (by decide) ?_
      refine v_iast X (ws' := (cl_X7_next T o_p0 a_p0 s_p0_finding s_p0_asked s_p0_newPoints s_p0_newLines s_p0_faultAt (s_p0_tries + (1 : Int32)) s_p0_things s_p0_goals (s_p0_level + (1 : Int32)) (vp_updL s_p0_barred ((s_p0_level + (1 : Int32))).toNatClampNeg ((s_p0_barred (s_p0_level).toNatClampNeg) ||| (s_p0_bars (x_4).toNatClampNeg))) s_p0_bars s_p0_choices s_p0_hits (vp_updL s_p0_met ((s_p0_level + (1 : Int32))).toNatClampNeg ((s_p0_met (s_p0_level).toNatClampNeg) ||| (s_p0_hits (x_4).toNatClampNeg))) (upd (upd s_p0_taken (s_p0_level).toNatClampNeg x_4) ((s_p0_level + (1 : Int32))).toNatClampNeg (-1 : Int32)))) 6 0 rfl rfl h.1 rfl dX7_next_253 ?_
      replace h := h.2
      refine v_goto X (tgt := 43) dX7_next_254 (by decide) ?_
      refine v_lv (lv' := [(0, .ref o_p0), (2, .int x_2)]) [0, 1] rfl ?_
      exact hK_43 _ _ _ _ _ h
    · replace h := h.2 c_151
      refine v_bipush X dX7_next_154 (v := (-6 : Int32)) (by decide) ?_
      exact r _ _ _ (s_p0_tries, s_p0_level, s_p0_barred, s_p0_met, s_p0_taken) _ dX7_next_156 h rfl
  · replace h := h.2 c_130
    refine v_aload_n X 0 dX7_next_133 rfl rfl ?_
    refine v_dup X dX7_next_134 rfl ?_
    refine v_get X 0 22 (F := TX7) (N := 33) iX7_next_X7 rfl rfl (by decide) (List.mem_of_getElem? (i := 1) rfl) rfl rfl dX7_next_135 ?_
    refine v_iconst X dX7_next_138 (v := (1 : Int32)) (by decide) ?_
    refine v_isub X dX7_next_139 ?_
    refine v_put X (ws' := (cl_X7_next T o_p0 a_p0 s_p0_finding s_p0_asked s_p0_newPoints s_p0_newLines s_p0_faultAt s_p0_tries s_p0_things s_p0_goals (s_p0_level - (1 : Int32)) s_p0_barred s_p0_bars s_p0_choices s_p0_hits s_p0_met s_p0_taken)) 0 22 (F := TX7) (N := 33) iX7_next_X7 rfl tyX7 tyX7_ok nmX7 rfl (by decide) (List.mem_of_getElem? (i := 1) rfl) rfl rfl rfl rfl rfl (Nat.le_of_ble_eq_true rfl) rfl dX7_next_140 ?_
    refine v_goto X (tgt := 43) dX7_next_143 (by decide) ?_
    refine v_lv (lv' := [(0, .ref o_p0), (2, .int x_2)]) [0, 1] rfl ?_
    exact hK_43 _ _ _ _ _ h
set_option maxHeartbeats 4000000 in
set_option maxRecDepth 100000 in
theorem k_X7_next_118 {E : vE} {T : Nat → ClassId} {o_p0 : Nat} {a_p0 : Nat → Nat} {s_p0_finding : Int32} {s_p0_asked : Int64} {s_p0_newPoints : Int32} {s_p0_newLines : Int32} {s_p0_faultAt : Int64} {s_p0_tries : Int32} {s_p0_things : Int32} {s_p0_goals : Int32} {s_p0_level : Int32} {s_p0_barred : Nat → Int64} {s_p0_bars : Nat → Int64} {s_p0_choices : Nat → Int64} {s_p0_hits : Nat → Int64} {s_p0_met : Nat → Int64} {s_p0_taken : Nat → Int32} {x_2 : Int32} {x_3 : Int32} {x_4 : Int32} {K_43 : (Int32) → (Int32) → (Nat → Int64) → (Nat → Int64) → (Nat → Int32) → Prop} {K_78 : (Int32) → Prop} {Q : Int32 → (Int32) → (Int32) → (Nat → Int64) → (Nat → Int64) → (Nat → Int32) → Prop} (X : vX E cX7_next 5 RX7 wsX7_next (vT T) (vr 2 43)) (r : r_X7_next E T o_p0 a_p0 s_p0_finding s_p0_asked s_p0_newPoints s_p0_newLines s_p0_faultAt s_p0_things s_p0_goals s_p0_bars s_p0_choices s_p0_hits Q) (hK_43 : ∀ (s_p0_tries' : Int32) (s_p0_level' : Int32) (s_p0_barred' : Nat → Int64) (s_p0_met' : Nat → Int64) (s_p0_taken' : Nat → Int32), K_43 s_p0_tries' s_p0_level' s_p0_barred' s_p0_met' s_p0_taken' → V E 0 0 43 [(0, .ref o_p0), (2, .int x_2)] [] (cl_X7_next T o_p0 a_p0 s_p0_finding s_p0_asked s_p0_newPoints s_p0_newLines s_p0_faultAt s_p0_tries' s_p0_things s_p0_goals s_p0_level' s_p0_barred' s_p0_bars s_p0_choices s_p0_hits s_p0_met' s_p0_taken')) (hK_78 : ∀ (x_4' : Int32), K_78 x_4' → V E 0 0 78 [(0, .ref o_p0), (2, .int x_2), (3, .int x_3), (4, .int x_4')] [] (cl_X7_next T o_p0 a_p0 s_p0_finding s_p0_asked s_p0_newPoints s_p0_newLines s_p0_faultAt s_p0_tries s_p0_things s_p0_goals s_p0_level s_p0_barred s_p0_bars s_p0_choices s_p0_hits s_p0_met s_p0_taken)) (h : w_X7_next_118 x_2 x_3 x_4 s_p0_tries s_p0_things s_p0_goals s_p0_level s_p0_barred s_p0_bars s_p0_choices s_p0_hits s_p0_met s_p0_taken K_43 K_78 Q) : V E 0 0 118 [(0, .ref o_p0), (2, .int x_2), (3, .int x_3), (4, .int x_4)] [] (cl_X7_next T o_p0 a_p0 s_p0_finding s_p0_asked s_p0_newPoints s_p0_newLines s_p0_faultAt s_p0_tries s_p0_things s_p0_goals s_p0_level s_p0_barred s_p0_bars s_p0_choices s_p0_hits s_p0_met s_p0_taken) := by
  unfold w_X7_next_118 at h
  refine v_iinc X (v := (x_4 + (1 : Int32))) (lv' := [(4, .int (x_4 + (1 : Int32))), (0, .ref o_p0), (2, .int x_2), (3, .int x_3)]) 3 dX7_next_118 rfl rfl (by decide) rfl ?_
  refine v_goto X (tgt := 78) dX7_next_121 (by decide) ?_
  refine v_lv (lv' := [(0, .ref o_p0), (2, .int x_2), (3, .int x_3), (4, .int (x_4 + (1 : Int32)))]) [1, 2, 3, 0] rfl ?_
  exact hK_78 _ h
set_option maxHeartbeats 4000000 in
set_option maxRecDepth 100000 in
theorem k_X7_next_78 {E : vE} {T : Nat → ClassId} {o_p0 : Nat} {a_p0 : Nat → Nat} {s_p0_finding : Int32} {s_p0_asked : Int64} {s_p0_newPoints : Int32} {s_p0_newLines : Int32} {s_p0_faultAt : Int64} {s_p0_tries : Int32} {s_p0_things : Int32} {s_p0_goals : Int32} {s_p0_level : Int32} {s_p0_barred : Nat → Int64} {s_p0_bars : Nat → Int64} {s_p0_choices : Nat → Int64} {s_p0_hits : Nat → Int64} {s_p0_met : Nat → Int64} {s_p0_taken : Nat → Int32} {x_2 : Int32} {x_3 : Int32} {K_43 : (Int32) → (Int32) → (Nat → Int64) → (Nat → Int64) → (Nat → Int32) → Prop} {Q : Int32 → (Int32) → (Int32) → (Nat → Int64) → (Nat → Int64) → (Nat → Int32) → Prop} (X : vX E cX7_next 5 RX7 wsX7_next (vT T) (vr 2 43)) (r : r_X7_next E T o_p0 a_p0 s_p0_finding s_p0_asked s_p0_newPoints s_p0_newLines s_p0_faultAt s_p0_things s_p0_goals s_p0_bars s_p0_choices s_p0_hits Q) (hK_43 : ∀ (s_p0_tries' : Int32) (s_p0_level' : Int32) (s_p0_barred' : Nat → Int64) (s_p0_met' : Nat → Int64) (s_p0_taken' : Nat → Int32), K_43 s_p0_tries' s_p0_level' s_p0_barred' s_p0_met' s_p0_taken' → V E 0 0 43 [(0, .ref o_p0), (2, .int x_2)] [] (cl_X7_next T o_p0 a_p0 s_p0_finding s_p0_asked s_p0_newPoints s_p0_newLines s_p0_faultAt s_p0_tries' s_p0_things s_p0_goals s_p0_level' s_p0_barred' s_p0_bars s_p0_choices s_p0_hits s_p0_met' s_p0_taken')) : ∀ (n_ : Nat) (x_4 : Int32), w_X7_next_78 x_2 x_3 s_p0_tries s_p0_things s_p0_goals s_p0_level s_p0_barred s_p0_bars s_p0_choices s_p0_hits s_p0_met s_p0_taken K_43 Q n_ x_4 → V E 0 0 78 [(0, .ref o_p0), (2, .int x_2), (3, .int x_3), (4, .int x_4)] [] (cl_X7_next T o_p0 a_p0 s_p0_finding s_p0_asked s_p0_newPoints s_p0_newLines s_p0_faultAt s_p0_tries s_p0_things s_p0_goals s_p0_level s_p0_barred s_p0_bars s_p0_choices s_p0_hits s_p0_met s_p0_taken) := by
  intro n_
  induction n_ with
  | zero => intro x_4 h; exact h.elim
  | succ n_ hK_78 =>
    intro x_4 h
    replace h : w_X7_next_78s x_2 x_3 s_p0_tries s_p0_things s_p0_goals s_p0_level s_p0_barred s_p0_bars s_p0_choices s_p0_hits s_p0_met s_p0_taken K_43 Q (w_X7_next_78 x_2 x_3 s_p0_tries s_p0_things s_p0_goals s_p0_level s_p0_barred s_p0_bars s_p0_choices s_p0_hits s_p0_met s_p0_taken K_43 Q n_) x_4 := h
    unfold w_X7_next_78s at h
    refine v_iload X 3 dX7_next_78 rfl ?_
    refine v_aload_n X 0 dX7_next_80 rfl rfl ?_
    refine v_get X 0 14 (F := TX7) (N := 33) iX7_next_X7 rfl rfl (by decide) (List.mem_of_getElem? (i := 6) rfl) rfl rfl dX7_next_81 ?_
    refine v_icmp_ge X (tgt := 124) dX7_next_84 (by decide) (fun c_84 => ?_) (fun c_84 => ?_)
    · replace h := h.1 c_84
      refine v_lv (lv' := [(0, .ref o_p0), (2, .int x_2), (4, .int x_4)]) [0, 1, 3] rfl ?_
      exact k_X7_next_124 X r hK_43 h
    · replace h := h.2 c_84
      refine v_aload_n X 0 dX7_next_87 rfl rfl ?_
      refine v_get X 0 18 (F := TX7) (N := 33) iX7_next_X7 rfl rfl (by decide) (List.mem_of_getElem? (i := 7) rfl) rfl rfl dX7_next_88 ?_
      refine v_iload_n X 2 dX7_next_91 rfl rfl ?_
      refine v_lald X 3 1 rfl rfl h.1 dX7_next_92 ?_
      replace h := h.2
      refine v_iload X 3 dX7_next_93 rfl ?_
      refine v_callSi0 X (As := [.long (s_p0_choices (x_3).toNatClampNeg), .int x_4]) (rest := []) 2 (c_X7_has (l := vl E) (D := vD E) (T := T) (x_0 := (s_p0_choices (x_3).toNatClampNeg)) (x_2 := x_4) h) gX7_next_X7_has rfl rfl (by decide +kernel) ⟨Nat.zero_le _, Nat.zero_le _⟩ ⟨rfl, rfl, by decide, by decide⟩ (Nat.le_of_ble_eq_true rfl) rfl dX7_next_95 (fun r_95 h => ?_)
      refine v_if_eq X (tgt := 118) dX7_next_98 (by decide) (fun c_98 => ?_) (fun c_98 => ?_)
      · replace h := h.1 c_98
        exact k_X7_next_118 X r hK_43 hK_78 h
      · replace h := h.2 c_98
        refine v_aload_n X 0 dX7_next_101 rfl rfl ?_
        refine v_get X 0 20 (F := TX7) (N := 33) iX7_next_X7 rfl rfl (by decide) (List.mem_of_getElem? (i := 2) rfl) rfl rfl dX7_next_102 ?_
        refine v_aload_n X 0 dX7_next_105 rfl rfl ?_
        refine v_get X 0 22 (F := TX7) (N := 33) iX7_next_X7 rfl rfl (by decide) (List.mem_of_getElem? (i := 1) rfl) rfl rfl dX7_next_106 ?_
        refine v_lald X 1 1 rfl rfl h.1 dX7_next_109 ?_
        replace h := h.2
        refine v_iload X 3 dX7_next_110 rfl ?_
        refine v_callSi0 X (As := [.long (s_p0_barred (s_p0_level).toNatClampNeg), .int x_4]) (rest := []) 2 (c_X7_has (l := vl E) (D := vD E) (T := T) (x_0 := (s_p0_barred (s_p0_level).toNatClampNeg)) (x_2 := x_4) h) gX7_next_X7_has rfl rfl (by decide +kernel) ⟨Nat.zero_le _, Nat.zero_le _⟩ ⟨rfl, rfl, by decide, by decide⟩ (Nat.le_of_ble_eq_true rfl) rfl dX7_next_112 (fun r_112 h => ?_)
        refine v_if_eq X (tgt := 124) dX7_next_115 (by decide) (fun c_115 => ?_) (fun c_115 => ?_)
        · replace h := h.1 c_115
          refine v_lv (lv' := [(0, .ref o_p0), (2, .int x_2), (4, .int x_4)]) [0, 1, 3] rfl ?_
          exact k_X7_next_124 X r hK_43 h
        · replace h := h.2 c_115
          exact k_X7_next_118 X r hK_43 hK_78 h
set_option maxHeartbeats 4000000 in
set_option maxRecDepth 100000 in
theorem k_X7_next_43 {E : vE} {T : Nat → ClassId} {o_p0 : Nat} {a_p0 : Nat → Nat} {s_p0_finding : Int32} {s_p0_asked : Int64} {s_p0_newPoints : Int32} {s_p0_newLines : Int32} {s_p0_faultAt : Int64} {s_p0_things : Int32} {s_p0_goals : Int32} {s_p0_bars : Nat → Int64} {s_p0_choices : Nat → Int64} {s_p0_hits : Nat → Int64} {x_2 : Int32} {Q : Int32 → (Int32) → (Int32) → (Nat → Int64) → (Nat → Int64) → (Nat → Int32) → Prop} (X : vX E cX7_next 5 RX7 wsX7_next (vT T) (vr 2 43)) (r : r_X7_next E T o_p0 a_p0 s_p0_finding s_p0_asked s_p0_newPoints s_p0_newLines s_p0_faultAt s_p0_things s_p0_goals s_p0_bars s_p0_choices s_p0_hits Q) : ∀ (n_ : Nat) (s_p0_tries : Int32) (s_p0_level : Int32) (s_p0_barred : Nat → Int64) (s_p0_met : Nat → Int64) (s_p0_taken : Nat → Int32), w_X7_next_43 x_2 s_p0_things s_p0_goals s_p0_bars s_p0_choices s_p0_hits Q n_ s_p0_tries s_p0_level s_p0_barred s_p0_met s_p0_taken → V E 0 0 43 [(0, .ref o_p0), (2, .int x_2)] [] (cl_X7_next T o_p0 a_p0 s_p0_finding s_p0_asked s_p0_newPoints s_p0_newLines s_p0_faultAt s_p0_tries s_p0_things s_p0_goals s_p0_level s_p0_barred s_p0_bars s_p0_choices s_p0_hits s_p0_met s_p0_taken) := by
  intro n_
  induction n_ with
  | zero => intro s_p0_tries s_p0_level s_p0_barred s_p0_met s_p0_taken h; exact h.elim
  | succ n_ hK_43 =>
    intro s_p0_tries s_p0_level s_p0_barred s_p0_met s_p0_taken h
    replace h : w_X7_next_43s x_2 s_p0_things s_p0_goals s_p0_bars s_p0_choices s_p0_hits Q (w_X7_next_43 x_2 s_p0_things s_p0_goals s_p0_bars s_p0_choices s_p0_hits Q n_) s_p0_tries s_p0_level s_p0_barred s_p0_met s_p0_taken := h
    unfold w_X7_next_43s at h
    refine v_aload_n X 0 dX7_next_43 rfl rfl ?_
    refine v_get X 0 22 (F := TX7) (N := 33) iX7_next_X7 rfl rfl (by decide) (List.mem_of_getElem? (i := 1) rfl) rfl rfl dX7_next_44 ?_
    refine v_if_lt X (tgt := 257) dX7_next_47 (by decide) (fun c_47 => ?_) (fun c_47 => ?_)
    · replace h := h.1 c_47
      refine v_iconst X dX7_next_257 (v := (0 : Int32)) (by decide) ?_
      exact r _ _ _ (s_p0_tries, s_p0_level, s_p0_barred, s_p0_met, s_p0_taken) _ dX7_next_258 h rfl
    · replace h := h.2 c_47
      refine v_aload_n X 0 dX7_next_50 rfl rfl ?_
      refine v_callVi X (As := []) (rest := []) 0 0 (c_X7_goalAt (l := vl E) (D := vD E) (T := T) (o_p0 := o_p0) (a_p0 := a_p0) (s_p0_finding := s_p0_finding) (s_p0_asked := s_p0_asked) (s_p0_newPoints := s_p0_newPoints) (s_p0_newLines := s_p0_newLines) (s_p0_faultAt := s_p0_faultAt) (s_p0_tries := s_p0_tries) (s_p0_things := s_p0_things) (s_p0_goals := s_p0_goals) (s_p0_level := s_p0_level) (s_p0_met := s_p0_met) h) gX7_next_X7_goalAt rfl rfl (by decide +kernel) ⟨Nat.zero_le _, Nat.zero_le _⟩ ⟨rfl, rfl, by decide, by decide⟩ (Nat.le_of_ble_eq_true rfl) rfl rfl (wr := [vJ T (a_p0 20) 47 s_p0_barred, vJ T (a_p0 16) 45 s_p0_bars, vJ T (a_p0 18) 45 s_p0_choices, vJ T (a_p0 17) 45 s_p0_hits, vI T (a_p0 19) 46 s_p0_taken]) [0, 5] [1, 2, 3, 4, 6] rfl rfl rfl rfl (by decide) rfl dX7_next_51 (fun r_51 u h => ?_)
      refine v_ws (ws' := (cl_X7_next T o_p0 a_p0 s_p0_finding s_p0_asked s_p0_newPoints s_p0_newLines s_p0_faultAt s_p0_tries s_p0_things s_p0_goals s_p0_level s_p0_barred s_p0_bars s_p0_choices s_p0_hits s_p0_met s_p0_taken)) [5, 0, 1, 2, 3, 6, 4] rfl rfl ?_
      refine v_istore_n X (lv' := [(3, .int r_51), (0, .ref o_p0), (2, .int x_2)]) dX7_next_54 rfl (by decide) rfl ?_
      refine v_iload_n X 0 dX7_next_55 rfl rfl ?_
      refine v_aload_n X 1 dX7_next_56 rfl rfl ?_
      refine v_get X 0 15 (F := TX7) (N := 33) iX7_next_X7 rfl rfl (by decide) (List.mem_of_getElem? (i := 5) rfl) rfl rfl dX7_next_57 ?_
      refine v_icmp_ne X (tgt := 65) dX7_next_60 (by decide) (fun c_60 => ?_) (fun c_60 => ?_)
      · replace h := h.1 c_60
        refine v_aload_n X 1 dX7_next_65 rfl rfl ?_
        refine v_get X 0 19 (F := TX7) (N := 33) iX7_next_X7 rfl rfl (by decide) (List.mem_of_getElem? (i := 4) rfl) rfl rfl dX7_next_66 ?_
        refine v_aload_n X 1 dX7_next_69 rfl rfl ?_
        refine v_get X 0 22 (F := TX7) (N := 33) iX7_next_X7 rfl rfl (by decide) (List.mem_of_getElem? (i := 1) rfl) rfl rfl dX7_next_70 ?_
        refine v_iald X 6 0 rfl rfl h.1 dX7_next_73 ?_
        replace h := h.2
        refine v_iconst X dX7_next_74 (v := (1 : Int32)) (by decide) ?_
        refine v_iadd X dX7_next_75 ?_
        refine v_istore X (lv' := [(4, .int ((s_p0_taken (s_p0_level).toNatClampNeg) + (1 : Int32))), (3, .int r_51), (0, .ref o_p0), (2, .int x_2)]) dX7_next_76 (by decide) rfl ?_
        refine v_lv (lv' := [(0, .ref o_p0), (2, .int x_2), (3, .int r_51), (4, .int ((s_p0_taken (s_p0_level).toNatClampNeg) + (1 : Int32)))]) [2, 3, 1, 0] rfl ?_
        obtain ⟨n_, h⟩ := h
        exact k_X7_next_78 X r hK_43 n_ _ h
      · replace h := h.2 c_60
        refine v_iconst X dX7_next_63 (v := (1 : Int32)) (by decide) ?_
        exact r _ _ _ (s_p0_tries, s_p0_level, s_p0_barred, s_p0_met, s_p0_taken) _ dX7_next_64 h rfl
set_option maxHeartbeats 4000000 in
set_option maxRecDepth 100000 in
theorem c_X7_next {l : Launch} {D : va_G} {T : Nat → ClassId} {o_p0 : Nat} {a_p0 : Nat → Nat} {s_p0_finding : Int32} {s_p0_asked : Int64} {s_p0_newPoints : Int32} {s_p0_newLines : Int32} {s_p0_faultAt : Int64} {s_p0_tries : Int32} {s_p0_things : Int32} {s_p0_goals : Int32} {s_p0_level : Int32} {s_p0_barred : Nat → Int64} {s_p0_bars : Nat → Int64} {s_p0_choices : Nat → Int64} {s_p0_hits : Nat → Int64} {s_p0_met : Nat → Int64} {s_p0_taken : Nat → Int32} {x_1 : Int32} {x_2 : Int32} {Q : Int32 → (Int32) → (Int32) → (Nat → Int64) → (Nat → Int64) → (Nat → Int32) → Prop} (h : w_X7_next x_1 x_2 s_p0_tries s_p0_things s_p0_goals s_p0_level s_p0_barred s_p0_bars s_p0_choices s_p0_hits s_p0_met s_p0_taken Q) : vCi l D (vT T) yX7_next wsX7_next (vr 2 43) [.ref o_p0, .int x_1, .int x_2] (cl_X7_next T o_p0 a_p0 s_p0_finding s_p0_asked s_p0_newPoints s_p0_newLines s_p0_faultAt s_p0_tries s_p0_things s_p0_goals s_p0_level s_p0_barred s_p0_bars s_p0_choices s_p0_hits s_p0_met s_p0_taken) (fun v (u : (Int32) × (Int32) × (Nat → Int64) × (Nat → Int64) × (Nat → Int32)) => Q v u.1 u.2.1 u.2.2.1 u.2.2.2.1 u.2.2.2.2) (fun (u : (Int32) × (Int32) × (Nat → Int64) × (Nat → Int64) × (Nat → Int32)) => (cl_X7_next T o_p0 a_p0 s_p0_finding s_p0_asked s_p0_newPoints s_p0_newLines s_p0_faultAt u.1 s_p0_things s_p0_goals u.2.1 u.2.2.1 s_p0_bars s_p0_choices s_p0_hits u.2.2.2.1 u.2.2.2.2)) := by
  refine vC_i (cc := cX7_next) (nL := 5) (by decide +kernel) rfl ⟨rfl, rfl⟩ (Nat.le_of_ble_eq_true rfl) rfl ?_
  intro E el eD X r
  unfold w_X7_next at h
  refine v_iload_n X 1 dX7_next_0 rfl rfl ?_
  refine v_if_eq X (tgt := 33) dX7_next_1 (by decide) (fun c_1 => ?_) (fun c_1 => ?_)
  · replace h := h.1 c_1
    refine v_aload_n X 0 dX7_next_33 rfl rfl ?_
    refine v_dup X dX7_next_34 rfl ?_
    refine v_get X 0 22 (F := TX7) (N := 33) iX7_next_X7 rfl rfl (by decide) (List.mem_of_getElem? (i := 1) rfl) rfl rfl dX7_next_35 ?_
    refine v_iconst X dX7_next_38 (v := (1 : Int32)) (by decide) ?_
    refine v_isub X dX7_next_39 ?_
    refine v_put X (ws' := (cl_X7_next T o_p0 a_p0 s_p0_finding s_p0_asked s_p0_newPoints s_p0_newLines s_p0_faultAt s_p0_tries s_p0_things s_p0_goals (s_p0_level - (1 : Int32)) s_p0_barred s_p0_bars s_p0_choices s_p0_hits s_p0_met s_p0_taken)) 0 22 (F := TX7) (N := 33) iX7_next_X7 rfl tyX7 tyX7_ok nmX7 rfl (by decide) (List.mem_of_getElem? (i := 1) rfl) rfl rfl rfl rfl rfl (Nat.le_of_ble_eq_true rfl) rfl dX7_next_40 ?_
    refine v_lv (lv' := [(0, .ref o_p0), (2, .int x_2)]) [0, 2] rfl ?_
    obtain ⟨n_, h⟩ := h
    exact k_X7_next_43 X r n_ _ _ _ _ _ h
  · replace h := h.2 c_1
    refine v_aload_n X 0 dX7_next_4 rfl rfl ?_
    refine v_iconst X dX7_next_5 (v := (0 : Int32)) (by decide) ?_
    refine v_put X (ws' := (cl_X7_next T o_p0 a_p0 s_p0_finding s_p0_asked s_p0_newPoints s_p0_newLines s_p0_faultAt s_p0_tries s_p0_things s_p0_goals (0 : Int32) s_p0_barred s_p0_bars s_p0_choices s_p0_hits s_p0_met s_p0_taken)) 0 22 (F := TX7) (N := 33) iX7_next_X7 rfl tyX7 tyX7_ok nmX7 rfl (by decide) (List.mem_of_getElem? (i := 1) rfl) rfl rfl rfl rfl rfl (Nat.le_of_ble_eq_true rfl) rfl dX7_next_6 ?_
    refine v_aload_n X 0 dX7_next_9 rfl rfl ?_
    refine v_get X 0 20 (F := TX7) (N := 33) iX7_next_X7 rfl rfl (by decide) (List.mem_of_getElem? (i := 2) rfl) rfl rfl dX7_next_10 ?_
    refine v_iconst X dX7_next_13 (v := (0 : Int32)) (by decide) ?_
    refine v_lconst X dX7_next_14 (v := (0 : Int64)) (by decide) ?_
    refine v_last X (ws' := (cl_X7_next T o_p0 a_p0 s_p0_finding s_p0_asked s_p0_newPoints s_p0_newLines s_p0_faultAt s_p0_tries s_p0_things s_p0_goals (0 : Int32) (vp_updL s_p0_barred ((0 : Int32)).toNatClampNeg (0 : Int64)) s_p0_bars s_p0_choices s_p0_hits s_p0_met s_p0_taken)) 1 1 rfl rfl h.1 rfl dX7_next_15 ?_
    replace h := h.2
    refine v_aload_n X 0 dX7_next_16 rfl rfl ?_
    refine v_get X 0 21 (F := TX7) (N := 33) iX7_next_X7 rfl rfl (by decide) (List.mem_of_getElem? (i := 3) rfl) rfl rfl dX7_next_17 ?_
    refine v_iconst X dX7_next_20 (v := (0 : Int32)) (by decide) ?_
    refine v_lconst X dX7_next_21 (v := (0 : Int64)) (by decide) ?_
    refine v_last X (ws' := (cl_X7_next T o_p0 a_p0 s_p0_finding s_p0_asked s_p0_newPoints s_p0_newLines s_p0_faultAt s_p0_tries s_p0_things s_p0_goals (0 : Int32) (vp_updL s_p0_barred ((0 : Int32)).toNatClampNeg (0 : Int64)) s_p0_bars s_p0_choices s_p0_hits (vp_updL s_p0_met ((0 : Int32)).toNatClampNeg (0 : Int64)) s_p0_taken)) 5 1 rfl rfl h.1 rfl dX7_next_22 ?_
    replace h := h.2
    refine v_aload_n X 0 dX7_next_23 rfl rfl ?_
    refine v_get X 0 19 (F := TX7) (N := 33) iX7_next_X7 rfl rfl (by decide) (List.mem_of_getElem? (i := 4) rfl) rfl rfl dX7_next_24 ?_
    refine v_iconst X dX7_next_27 (v := (0 : Int32)) (by decide) ?_
    refine v_iconst X dX7_next_28 (v := (-1 : Int32)) (by decide) ?_
    refine v_iast X (ws' := (cl_X7_next T o_p0 a_p0 s_p0_finding s_p0_asked s_p0_newPoints s_p0_newLines s_p0_faultAt s_p0_tries s_p0_things s_p0_goals (0 : Int32) (vp_updL s_p0_barred ((0 : Int32)).toNatClampNeg (0 : Int64)) s_p0_bars s_p0_choices s_p0_hits (vp_updL s_p0_met ((0 : Int32)).toNatClampNeg (0 : Int64)) (upd s_p0_taken ((0 : Int32)).toNatClampNeg (-1 : Int32)))) 6 0 rfl rfl h.1 rfl dX7_next_29 ?_
    replace h := h.2
    refine v_goto X (tgt := 43) dX7_next_30 (by decide) ?_
    refine v_lv (lv' := [(0, .ref o_p0), (2, .int x_2)]) [0, 2] rfl ?_
    obtain ⟨n_, h⟩ := h
    exact k_X7_next_43 X r n_ _ _ _ _ _ h
-- X7_seek
abbrev cl_X7_seek (T : Nat → ClassId) (o_p0 : Nat) (a_p0 : Nat → Nat) (s_p0_finding : Int32) (s_p0_asked : Int64) (s_p0_newPoints : Int32) (s_p0_newLines : Int32) (s_p0_faultAt : Int64) (s_p0_tries : Int32) (s_p0_things : Int32) (s_p0_goals : Int32) (s_p0_level : Int32) (s_p0_barred : Nat → Int64) (s_p0_bars : Nat → Int64) (s_p0_choices : Nat → Int64) (s_p0_findings : Nat → Int32) (s_p0_hits : Nat → Int64) (s_p0_lineCount : Nat → Int32) (s_p0_lines : Nat → Int64) (s_p0_met : Nat → Int64) (s_p0_points : Nat → Int32) (s_p0_taken : Nat → Int32) : va_W := [vO o_p0 4 [.int s_p0_finding, .ref (a_p0 1), .long s_p0_asked, .ref (a_p0 3), .ref (a_p0 4), .ref (a_p0 5), .ref (a_p0 6), .ref (a_p0 7), .int s_p0_newPoints, .int s_p0_newLines, .ref (a_p0 10), .ref (a_p0 11), .long s_p0_faultAt, .int s_p0_tries, .int s_p0_things, .int s_p0_goals, .ref (a_p0 16), .ref (a_p0 17), .ref (a_p0 18), .ref (a_p0 19), .ref (a_p0 20), .ref (a_p0 21), .int s_p0_level, .ref (a_p0 23), .ref (a_p0 24), .ref (a_p0 25), .ref (a_p0 26), .ref (a_p0 27), .ref (a_p0 28), .ref (a_p0 29), .ref (a_p0 30), .ref (a_p0 31), .ref (a_p0 32)], vJ T (a_p0 20) 47 s_p0_barred, vJ T (a_p0 16) 45 s_p0_bars, vJ T (a_p0 18) 45 s_p0_choices, vI T (a_p0 1) 6 s_p0_findings, vJ T (a_p0 17) 45 s_p0_hits, vI T (a_p0 4) 6 s_p0_lineCount, vJ T (a_p0 7) 270 s_p0_lines, vJ T (a_p0 21) 47 s_p0_met, vI T (a_p0 3) 6 s_p0_points, vI T (a_p0 19) 46 s_p0_taken]
abbrev r_X7_seek (E : vE) (T : Nat → ClassId) (o_p0 : Nat) (a_p0 : Nat → Nat) (s_p0_newPoints : Int32) (s_p0_newLines : Int32) (s_p0_faultAt : Int64) (s_p0_lineCount : Nat → Int32) (s_p0_lines : Nat → Int64) (s_p0_points : Nat → Int32) (Q : Int32 → (Int32) → (Int64) → (Int32) → (Int32) → (Int32) → (Int32) → (Nat → Int64) → (Nat → Int64) → (Nat → Int64) → (Nat → Int32) → (Nat → Int64) → (Nat → Int64) → (Nat → Int32) → Prop) : Prop := vRi E cX7_seek (fun v (u : (Int32) × (Int64) × (Int32) × (Int32) × (Int32) × (Int32) × (Nat → Int64) × (Nat → Int64) × (Nat → Int64) × (Nat → Int32) × (Nat → Int64) × (Nat → Int64) × (Nat → Int32)) => Q v u.1 u.2.1 u.2.2.1 u.2.2.2.1 u.2.2.2.2.1 u.2.2.2.2.2.1 u.2.2.2.2.2.2.1 u.2.2.2.2.2.2.2.1 u.2.2.2.2.2.2.2.2.1 u.2.2.2.2.2.2.2.2.2.1 u.2.2.2.2.2.2.2.2.2.2.1 u.2.2.2.2.2.2.2.2.2.2.2.1 u.2.2.2.2.2.2.2.2.2.2.2.2) (fun (u : (Int32) × (Int64) × (Int32) × (Int32) × (Int32) × (Int32) × (Nat → Int64) × (Nat → Int64) × (Nat → Int64) × (Nat → Int32) × (Nat → Int64) × (Nat → Int64) × (Nat → Int32)) => (cl_X7_seek T o_p0 a_p0 u.1 u.2.1 s_p0_newPoints s_p0_newLines s_p0_faultAt u.2.2.1 u.2.2.2.1 u.2.2.2.2.1 u.2.2.2.2.2.1 u.2.2.2.2.2.2.1 u.2.2.2.2.2.2.2.1 u.2.2.2.2.2.2.2.2.1 u.2.2.2.2.2.2.2.2.2.1 u.2.2.2.2.2.2.2.2.2.2.1 s_p0_lineCount s_p0_lines u.2.2.2.2.2.2.2.2.2.2.2.1 s_p0_points u.2.2.2.2.2.2.2.2.2.2.2.2))
def w_X7_seek_78s (s_p0_finding : Int32) (s_p0_asked : Int64) (s_p0_tries : Int32) (s_p0_things : Int32) (s_p0_goals : Int32) (s_p0_level : Int32) (s_p0_barred : Nat → Int64) (s_p0_bars : Nat → Int64) (s_p0_choices : Nat → Int64) (s_p0_findings : Nat → Int32) (s_p0_hits : Nat → Int64) (s_p0_lineCount : Nat → Int32) (s_p0_lines : Nat → Int64) (s_p0_met : Nat → Int64) (s_p0_points : Nat → Int32) (s_p0_taken : Nat → Int32) (Q : Int32 → (Int32) → (Int64) → (Int32) → (Int32) → (Int32) → (Int32) → (Nat → Int64) → (Nat → Int64) → (Nat → Int64) → (Nat → Int32) → (Nat → Int64) → (Nat → Int64) → (Nat → Int32) → Prop) (K_78 : (Int64) → (Int32) → Prop) (x_6 : Int64) (x_8 : Int32) : Prop := ((s_p0_level ≤ x_8 → (w_X7_ask x_6 s_p0_level s_p0_asked (fun (r_114 : Int32) (u_114_0 : Int64) => (Q r_114 s_p0_finding u_114_0 s_p0_tries s_p0_things s_p0_goals s_p0_level s_p0_barred s_p0_bars s_p0_choices s_p0_findings s_p0_hits s_p0_met s_p0_taken)))) ∧ (¬ s_p0_level ≤ x_8 → (vp_in x_8 46 ∧ (K_78 (x_6 ||| (vshl (1 : Int64) (s_p0_taken (x_8).toNatClampNeg))) (x_8 + (1 : Int32))))))
def w_X7_seek_78 (s_p0_finding : Int32) (s_p0_asked : Int64) (s_p0_tries : Int32) (s_p0_things : Int32) (s_p0_goals : Int32) (s_p0_level : Int32) (s_p0_barred : Nat → Int64) (s_p0_bars : Nat → Int64) (s_p0_choices : Nat → Int64) (s_p0_findings : Nat → Int32) (s_p0_hits : Nat → Int64) (s_p0_lineCount : Nat → Int32) (s_p0_lines : Nat → Int64) (s_p0_met : Nat → Int64) (s_p0_points : Nat → Int32) (s_p0_taken : Nat → Int32) (Q : Int32 → (Int32) → (Int64) → (Int32) → (Int32) → (Int32) → (Int32) → (Nat → Int64) → (Nat → Int64) → (Nat → Int64) → (Nat → Int32) → (Nat → Int64) → (Nat → Int64) → (Nat → Int32) → Prop) : Nat → (Int64) → (Int32) → Prop
  | 0 => fun _ _ => False
  | n_ + 1 => w_X7_seek_78s s_p0_finding s_p0_asked s_p0_tries s_p0_things s_p0_goals s_p0_level s_p0_barred s_p0_bars s_p0_choices s_p0_findings s_p0_hits s_p0_lineCount s_p0_lines s_p0_met s_p0_points s_p0_taken Q (w_X7_seek_78 s_p0_finding s_p0_asked s_p0_tries s_p0_things s_p0_goals s_p0_level s_p0_barred s_p0_bars s_p0_choices s_p0_findings s_p0_hits s_p0_lineCount s_p0_lines s_p0_met s_p0_points s_p0_taken Q n_)
def w_X7_seek_71 (t_0 : Int32) (s_p0_finding : Int32) (s_p0_asked : Int64) (s_p0_tries : Int32) (s_p0_things : Int32) (s_p0_goals : Int32) (s_p0_level : Int32) (s_p0_barred : Nat → Int64) (s_p0_bars : Nat → Int64) (s_p0_choices : Nat → Int64) (s_p0_findings : Nat → Int32) (s_p0_hits : Nat → Int64) (s_p0_lineCount : Nat → Int32) (s_p0_lines : Nat → Int64) (s_p0_met : Nat → Int64) (s_p0_points : Nat → Int32) (s_p0_taken : Nat → Int32) (Q : Int32 → (Int32) → (Int64) → (Int32) → (Int32) → (Int32) → (Int32) → (Nat → Int64) → (Nat → Int64) → (Nat → Int64) → (Nat → Int32) → (Nat → Int64) → (Nat → Int64) → (Nat → Int32) → Prop) : Prop := (Q t_0 s_p0_finding s_p0_asked s_p0_tries s_p0_things s_p0_goals s_p0_level s_p0_barred s_p0_bars s_p0_choices s_p0_findings s_p0_hits s_p0_met s_p0_taken)
def w_X7_seek_17 (s_p0_finding : Int32) (s_p0_asked : Int64) (s_p0_tries : Int32) (s_p0_things : Int32) (s_p0_goals : Int32) (s_p0_level : Int32) (s_p0_barred : Nat → Int64) (s_p0_bars : Nat → Int64) (s_p0_choices : Nat → Int64) (s_p0_findings : Nat → Int32) (s_p0_hits : Nat → Int64) (s_p0_lineCount : Nat → Int32) (s_p0_lines : Nat → Int64) (s_p0_met : Nat → Int64) (s_p0_points : Nat → Int32) (s_p0_taken : Nat → Int32) (Q : Int32 → (Int32) → (Int64) → (Int32) → (Int32) → (Int32) → (Int32) → (Nat → Int64) → (Nat → Int64) → (Nat → Int64) → (Nat → Int32) → (Nat → Int64) → (Nat → Int64) → (Nat → Int32) → Prop) : Prop := (Q (-1 : Int32) s_p0_finding s_p0_asked s_p0_tries s_p0_things s_p0_goals s_p0_level s_p0_barred s_p0_bars s_p0_choices s_p0_findings s_p0_hits s_p0_met s_p0_taken)
def w_X7_seek (x_1 : Int32) (x_2 : Int32) (x_3 : Int32) (s_p0_finding : Int32) (s_p0_asked : Int64) (s_p0_tries : Int32) (s_p0_things : Int32) (s_p0_goals : Int32) (s_p0_level : Int32) (s_p0_barred : Nat → Int64) (s_p0_bars : Nat → Int64) (s_p0_choices : Nat → Int64) (s_p0_findings : Nat → Int32) (s_p0_hits : Nat → Int64) (s_p0_lineCount : Nat → Int32) (s_p0_lines : Nat → Int64) (s_p0_met : Nat → Int64) (s_p0_points : Nat → Int32) (s_p0_taken : Nat → Int32) (Q : Int32 → (Int32) → (Int64) → (Int32) → (Int32) → (Int32) → (Int32) → (Nat → Int64) → (Nat → Int64) → (Nat → Int64) → (Nat → Int32) → (Nat → Int64) → (Nat → Int64) → (Nat → Int32) → Prop) : Prop := (w_X7_isNumber x_1 (fun (r_1 : Int32) => ((r_1 = 0 → (w_X7_seek_17 s_p0_finding s_p0_asked s_p0_tries s_p0_things s_p0_goals s_p0_level s_p0_barred s_p0_bars s_p0_choices s_p0_findings s_p0_hits s_p0_lineCount s_p0_lines s_p0_met s_p0_points s_p0_taken Q)) ∧ (¬ r_1 = 0 → (w_X7_in x_2 (1 : Int32) (100000 : Int32) (fun (r_11 : Int32) => ((¬ r_11 = 0 → (w_X7_looked x_1 s_p0_finding s_p0_findings s_p0_points (fun (r_21 : Int32) (u_21_0 : Int32) (u_21_1 : Nat → Int32) => ((0 ≤ r_21 → (w_X7_setSeeking x_1 x_3 s_p0_things s_p0_goals s_p0_bars s_p0_choices s_p0_hits s_p0_lineCount s_p0_lines s_p0_points (fun (u_37_0 : Int32) (u_37_1 : Int32) (u_37_2 : Nat → Int64) (u_37_3 : Nat → Int64) (u_37_4 : Nat → Int64) => (w_X7_next (1 : Int32) x_2 (0 : Int32) u_37_0 u_37_1 s_p0_level s_p0_barred u_37_2 u_37_3 u_37_4 s_p0_met s_p0_taken (fun (r_48 : Int32) (u_48_0 : Int32) (u_48_1 : Int32) (u_48_2 : Nat → Int64) (u_48_3 : Nat → Int64) (u_48_4 : Nat → Int32) => (((1 : Int32) ≤ r_48 → (∃ n_, w_X7_seek_78 u_21_0 s_p0_asked u_48_0 u_37_0 u_37_1 u_48_1 u_48_2 u_37_2 u_37_3 u_21_1 u_37_4 s_p0_lineCount s_p0_lines u_48_3 s_p0_points u_48_4 Q n_ (0 : Int64) (0 : Int32))) ∧ (¬ (1 : Int32) ≤ r_48 → ((0 ≤ r_48 → (w_X7_seek_71 (-9 : Int32) u_21_0 s_p0_asked u_48_0 u_37_0 u_37_1 u_48_1 u_48_2 u_37_2 u_37_3 u_21_1 u_37_4 s_p0_lineCount s_p0_lines u_48_3 s_p0_points u_48_4 Q)) ∧ (¬ 0 ≤ r_48 → (w_X7_seek_71 r_48 u_21_0 s_p0_asked u_48_0 u_37_0 u_37_1 u_48_1 u_48_2 u_37_2 u_37_3 u_21_1 u_37_4 s_p0_lineCount s_p0_lines u_48_3 s_p0_points u_48_4 Q)))))))))) ∧ (¬ 0 ≤ r_21 → (Q r_21 u_21_0 s_p0_asked s_p0_tries s_p0_things s_p0_goals s_p0_level s_p0_barred s_p0_bars s_p0_choices u_21_1 s_p0_hits s_p0_met s_p0_taken)))))) ∧ (r_11 = 0 → (w_X7_seek_17 s_p0_finding s_p0_asked s_p0_tries s_p0_things s_p0_goals s_p0_level s_p0_barred s_p0_bars s_p0_choices s_p0_findings s_p0_hits s_p0_lineCount s_p0_lines s_p0_met s_p0_points s_p0_taken Q)))))))))
-- X7_seek
theorem iX7_seek_X7 : ∀ w ∈ wsX70, w ∈ wsX7_seek := by decide +kernel
set_option maxHeartbeats 4000000 in
set_option maxRecDepth 100000 in
theorem k_X7_seek_78 {E : vE} {T : Nat → ClassId} {o_p0 : Nat} {a_p0 : Nat → Nat} {s_p0_finding : Int32} {s_p0_asked : Int64} {s_p0_newPoints : Int32} {s_p0_newLines : Int32} {s_p0_faultAt : Int64} {s_p0_tries : Int32} {s_p0_things : Int32} {s_p0_goals : Int32} {s_p0_level : Int32} {s_p0_barred : Nat → Int64} {s_p0_bars : Nat → Int64} {s_p0_choices : Nat → Int64} {s_p0_findings : Nat → Int32} {s_p0_hits : Nat → Int64} {s_p0_lineCount : Nat → Int32} {s_p0_lines : Nat → Int64} {s_p0_met : Nat → Int64} {s_p0_points : Nat → Int32} {s_p0_taken : Nat → Int32} {Q : Int32 → (Int32) → (Int64) → (Int32) → (Int32) → (Int32) → (Int32) → (Nat → Int64) → (Nat → Int64) → (Nat → Int64) → (Nat → Int32) → (Nat → Int64) → (Nat → Int64) → (Nat → Int32) → Prop} (X : vX E cX7_seek 9 RX7 wsX7_seek (vT T) (vr 3 71)) (r : r_X7_seek E T o_p0 a_p0 s_p0_newPoints s_p0_newLines s_p0_faultAt s_p0_lineCount s_p0_lines s_p0_points Q) : ∀ (n_ : Nat) (x_6 : Int64) (x_8 : Int32), w_X7_seek_78 s_p0_finding s_p0_asked s_p0_tries s_p0_things s_p0_goals s_p0_level s_p0_barred s_p0_bars s_p0_choices s_p0_findings s_p0_hits s_p0_lineCount s_p0_lines s_p0_met s_p0_points s_p0_taken Q n_ x_6 x_8 → V E 0 0 78 [(0, .ref o_p0), (6, .long x_6), (8, .int x_8)] [] (cl_X7_seek T o_p0 a_p0 s_p0_finding s_p0_asked s_p0_newPoints s_p0_newLines s_p0_faultAt s_p0_tries s_p0_things s_p0_goals s_p0_level s_p0_barred s_p0_bars s_p0_choices s_p0_findings s_p0_hits s_p0_lineCount s_p0_lines s_p0_met s_p0_points s_p0_taken) := by
  intro n_
  induction n_ with
  | zero => intro x_6 x_8 h; exact h.elim
  | succ n_ hK_78 =>
    intro x_6 x_8 h
    replace h : w_X7_seek_78s s_p0_finding s_p0_asked s_p0_tries s_p0_things s_p0_goals s_p0_level s_p0_barred s_p0_bars s_p0_choices s_p0_findings s_p0_hits s_p0_lineCount s_p0_lines s_p0_met s_p0_points s_p0_taken Q (w_X7_seek_78 s_p0_finding s_p0_asked s_p0_tries s_p0_things s_p0_goals s_p0_level s_p0_barred s_p0_bars s_p0_choices s_p0_findings s_p0_hits s_p0_lineCount s_p0_lines s_p0_met s_p0_points s_p0_taken Q n_) x_6 x_8 := h
    unfold w_X7_seek_78s at h
    refine v_iload X 2 dX7_seek_78 rfl ?_
    refine v_aload_n X 0 dX7_seek_80 rfl rfl ?_
    refine v_get X 0 22 (F := TX7) (N := 33) iX7_seek_X7 rfl rfl (by decide) (List.mem_of_getElem? (i := 3) rfl) rfl rfl dX7_seek_81 ?_
    refine v_icmp_ge X (tgt := 107) dX7_seek_84 (by decide) (fun c_84 => ?_) (fun c_84 => ?_)
    · replace h := h.1 c_84
      refine v_aload_n X 0 dX7_seek_107 rfl rfl ?_
      refine v_lload X 1 dX7_seek_108 rfl ?_
      refine v_aload_n X 0 dX7_seek_110 rfl rfl ?_
      refine v_get X 0 22 (F := TX7) (N := 33) iX7_seek_X7 rfl rfl (by decide) (List.mem_of_getElem? (i := 3) rfl) rfl rfl dX7_seek_111 ?_
      refine v_callVi X (As := [.long x_6, .int s_p0_level]) (rest := []) 2 0 (c_X7_ask (l := vl E) (D := vD E) (T := T) (o_p0 := o_p0) (a_p0 := a_p0) (s_p0_finding := s_p0_finding) (s_p0_asked := s_p0_asked) (s_p0_newPoints := s_p0_newPoints) (s_p0_newLines := s_p0_newLines) (s_p0_faultAt := s_p0_faultAt) (s_p0_tries := s_p0_tries) (s_p0_things := s_p0_things) (s_p0_goals := s_p0_goals) (s_p0_level := s_p0_level) (x_1 := x_6) (x_3 := s_p0_level) h) gX7_seek_X7_ask rfl rfl (by decide +kernel) ⟨Nat.zero_le _, Nat.zero_le _⟩ ⟨rfl, rfl, by decide, by decide⟩ (Nat.le_of_ble_eq_true rfl) rfl rfl (wr := [vJ T (a_p0 20) 47 s_p0_barred, vJ T (a_p0 16) 45 s_p0_bars, vJ T (a_p0 18) 45 s_p0_choices, vI T (a_p0 1) 6 s_p0_findings, vJ T (a_p0 17) 45 s_p0_hits, vI T (a_p0 4) 6 s_p0_lineCount, vJ T (a_p0 7) 270 s_p0_lines, vJ T (a_p0 21) 47 s_p0_met, vI T (a_p0 3) 6 s_p0_points, vI T (a_p0 19) 46 s_p0_taken]) [0] [1, 2, 3, 4, 5, 6, 7, 8, 9, 10] rfl rfl rfl rfl (by decide) rfl dX7_seek_114 (fun r_114 u h => ?_)
      obtain ⟨u_114_0, rfl⟩ : ∃ z, z = u := ⟨_, rfl⟩
      refine v_ws (ws' := (cl_X7_seek T o_p0 a_p0 s_p0_finding u_114_0 s_p0_newPoints s_p0_newLines s_p0_faultAt s_p0_tries s_p0_things s_p0_goals s_p0_level s_p0_barred s_p0_bars s_p0_choices s_p0_findings s_p0_hits s_p0_lineCount s_p0_lines s_p0_met s_p0_points s_p0_taken)) [10, 0, 1, 2, 3, 4, 5, 6, 7, 8, 9] rfl rfl ?_
      exact r _ _ _ (s_p0_finding, u_114_0, s_p0_tries, s_p0_things, s_p0_goals, s_p0_level, s_p0_barred, s_p0_bars, s_p0_choices, s_p0_findings, s_p0_hits, s_p0_met, s_p0_taken) _ dX7_seek_117 h rfl
    · replace h := h.2 c_84
      refine v_lload X 1 dX7_seek_87 rfl ?_
      refine v_lconst X dX7_seek_89 (v := (1 : Int64)) (by decide) ?_
      refine v_aload_n X 0 dX7_seek_90 rfl rfl ?_
      refine v_get X 0 19 (F := TX7) (N := 33) iX7_seek_X7 rfl rfl (by decide) (List.mem_of_getElem? (i := 4) rfl) rfl rfl dX7_seek_91 ?_
      refine v_iload X 2 dX7_seek_94 rfl ?_
      refine v_iald X 10 0 rfl rfl h.1 dX7_seek_96 ?_
      replace h := h.2
      refine v_lshl X dX7_seek_97 ?_
      refine v_lor X dX7_seek_98 ?_
      refine v_lstore X (lv' := [(6, .long (x_6 ||| (vshl (1 : Int64) (s_p0_taken (x_8).toNatClampNeg)))), (0, .ref o_p0), (8, .int x_8)]) dX7_seek_99 (by decide) rfl ?_
      refine v_iinc X (v := (x_8 + (1 : Int32))) (lv' := [(8, .int (x_8 + (1 : Int32))), (6, .long (x_6 ||| (vshl (1 : Int64) (s_p0_taken (x_8).toNatClampNeg)))), (0, .ref o_p0)]) 2 dX7_seek_101 rfl rfl (by decide) rfl ?_
      refine v_goto X (tgt := 78) dX7_seek_104 (by decide) ?_
      refine v_lv (lv' := [(0, .ref o_p0), (6, .long (x_6 ||| (vshl (1 : Int64) (s_p0_taken (x_8).toNatClampNeg)))), (8, .int (x_8 + (1 : Int32)))]) [2, 1, 0] rfl ?_
      exact hK_78 _ _ h
set_option maxHeartbeats 4000000 in
set_option maxRecDepth 100000 in
theorem k_X7_seek_71 {E : vE} {T : Nat → ClassId} {o_p0 : Nat} {a_p0 : Nat → Nat} {s_p0_finding : Int32} {s_p0_asked : Int64} {s_p0_newPoints : Int32} {s_p0_newLines : Int32} {s_p0_faultAt : Int64} {s_p0_tries : Int32} {s_p0_things : Int32} {s_p0_goals : Int32} {s_p0_level : Int32} {s_p0_barred : Nat → Int64} {s_p0_bars : Nat → Int64} {s_p0_choices : Nat → Int64} {s_p0_findings : Nat → Int32} {s_p0_hits : Nat → Int64} {s_p0_lineCount : Nat → Int32} {s_p0_lines : Nat → Int64} {s_p0_met : Nat → Int64} {s_p0_points : Nat → Int32} {s_p0_taken : Nat → Int32} {t_0 : Int32} {Q : Int32 → (Int32) → (Int64) → (Int32) → (Int32) → (Int32) → (Int32) → (Nat → Int64) → (Nat → Int64) → (Nat → Int64) → (Nat → Int32) → (Nat → Int64) → (Nat → Int64) → (Nat → Int32) → Prop} (X : vX E cX7_seek 9 RX7 wsX7_seek (vT T) (vr 3 71)) (r : r_X7_seek E T o_p0 a_p0 s_p0_newPoints s_p0_newLines s_p0_faultAt s_p0_lineCount s_p0_lines s_p0_points Q) (h : w_X7_seek_71 t_0 s_p0_finding s_p0_asked s_p0_tries s_p0_things s_p0_goals s_p0_level s_p0_barred s_p0_bars s_p0_choices s_p0_findings s_p0_hits s_p0_lineCount s_p0_lines s_p0_met s_p0_points s_p0_taken Q) : V E 0 0 71 [] [.int t_0] (cl_X7_seek T o_p0 a_p0 s_p0_finding s_p0_asked s_p0_newPoints s_p0_newLines s_p0_faultAt s_p0_tries s_p0_things s_p0_goals s_p0_level s_p0_barred s_p0_bars s_p0_choices s_p0_findings s_p0_hits s_p0_lineCount s_p0_lines s_p0_met s_p0_points s_p0_taken) := by
  unfold w_X7_seek_71 at h
  exact r _ _ _ (s_p0_finding, s_p0_asked, s_p0_tries, s_p0_things, s_p0_goals, s_p0_level, s_p0_barred, s_p0_bars, s_p0_choices, s_p0_findings, s_p0_hits, s_p0_met, s_p0_taken) _ dX7_seek_71 h rfl
set_option maxHeartbeats 4000000 in
set_option maxRecDepth 100000 in
theorem k_X7_seek_17 {E : vE} {T : Nat → ClassId} {o_p0 : Nat} {a_p0 : Nat → Nat} {s_p0_finding : Int32} {s_p0_asked : Int64} {s_p0_newPoints : Int32} {s_p0_newLines : Int32} {s_p0_faultAt : Int64} {s_p0_tries : Int32} {s_p0_things : Int32} {s_p0_goals : Int32} {s_p0_level : Int32} {s_p0_barred : Nat → Int64} {s_p0_bars : Nat → Int64} {s_p0_choices : Nat → Int64} {s_p0_findings : Nat → Int32} {s_p0_hits : Nat → Int64} {s_p0_lineCount : Nat → Int32} {s_p0_lines : Nat → Int64} {s_p0_met : Nat → Int64} {s_p0_points : Nat → Int32} {s_p0_taken : Nat → Int32} {Q : Int32 → (Int32) → (Int64) → (Int32) → (Int32) → (Int32) → (Int32) → (Nat → Int64) → (Nat → Int64) → (Nat → Int64) → (Nat → Int32) → (Nat → Int64) → (Nat → Int64) → (Nat → Int32) → Prop} (X : vX E cX7_seek 9 RX7 wsX7_seek (vT T) (vr 3 71)) (r : r_X7_seek E T o_p0 a_p0 s_p0_newPoints s_p0_newLines s_p0_faultAt s_p0_lineCount s_p0_lines s_p0_points Q) (h : w_X7_seek_17 s_p0_finding s_p0_asked s_p0_tries s_p0_things s_p0_goals s_p0_level s_p0_barred s_p0_bars s_p0_choices s_p0_findings s_p0_hits s_p0_lineCount s_p0_lines s_p0_met s_p0_points s_p0_taken Q) : V E 0 0 17 [] [] (cl_X7_seek T o_p0 a_p0 s_p0_finding s_p0_asked s_p0_newPoints s_p0_newLines s_p0_faultAt s_p0_tries s_p0_things s_p0_goals s_p0_level s_p0_barred s_p0_bars s_p0_choices s_p0_findings s_p0_hits s_p0_lineCount s_p0_lines s_p0_met s_p0_points s_p0_taken) := by
  unfold w_X7_seek_17 at h
  refine v_iconst X dX7_seek_17 (v := (-1 : Int32)) (by decide) ?_
  exact r _ _ _ (s_p0_finding, s_p0_asked, s_p0_tries, s_p0_things, s_p0_goals, s_p0_level, s_p0_barred, s_p0_bars, s_p0_choices, s_p0_findings, s_p0_hits, s_p0_met, s_p0_taken) _ dX7_seek_18 h rfl
set_option maxHeartbeats 4000000 in
set_option maxRecDepth 100000 in
theorem c_X7_seek {l : Launch} {D : va_G} {T : Nat → ClassId} {o_p0 : Nat} {a_p0 : Nat → Nat} {s_p0_finding : Int32} {s_p0_asked : Int64} {s_p0_newPoints : Int32} {s_p0_newLines : Int32} {s_p0_faultAt : Int64} {s_p0_tries : Int32} {s_p0_things : Int32} {s_p0_goals : Int32} {s_p0_level : Int32} {s_p0_barred : Nat → Int64} {s_p0_bars : Nat → Int64} {s_p0_choices : Nat → Int64} {s_p0_findings : Nat → Int32} {s_p0_hits : Nat → Int64} {s_p0_lineCount : Nat → Int32} {s_p0_lines : Nat → Int64} {s_p0_met : Nat → Int64} {s_p0_points : Nat → Int32} {s_p0_taken : Nat → Int32} {x_1 : Int32} {x_2 : Int32} {x_3 : Int32} {Q : Int32 → (Int32) → (Int64) → (Int32) → (Int32) → (Int32) → (Int32) → (Nat → Int64) → (Nat → Int64) → (Nat → Int64) → (Nat → Int32) → (Nat → Int64) → (Nat → Int64) → (Nat → Int32) → Prop} (h : w_X7_seek x_1 x_2 x_3 s_p0_finding s_p0_asked s_p0_tries s_p0_things s_p0_goals s_p0_level s_p0_barred s_p0_bars s_p0_choices s_p0_findings s_p0_hits s_p0_lineCount s_p0_lines s_p0_met s_p0_points s_p0_taken Q) : vCi l D (vT T) yX7_seek wsX7_seek (vr 3 71) [.ref o_p0, .int x_1, .int x_2, .int x_3] (cl_X7_seek T o_p0 a_p0 s_p0_finding s_p0_asked s_p0_newPoints s_p0_newLines s_p0_faultAt s_p0_tries s_p0_things s_p0_goals s_p0_level s_p0_barred s_p0_bars s_p0_choices s_p0_findings s_p0_hits s_p0_lineCount s_p0_lines s_p0_met s_p0_points s_p0_taken) (fun v (u : (Int32) × (Int64) × (Int32) × (Int32) × (Int32) × (Int32) × (Nat → Int64) × (Nat → Int64) × (Nat → Int64) × (Nat → Int32) × (Nat → Int64) × (Nat → Int64) × (Nat → Int32)) => Q v u.1 u.2.1 u.2.2.1 u.2.2.2.1 u.2.2.2.2.1 u.2.2.2.2.2.1 u.2.2.2.2.2.2.1 u.2.2.2.2.2.2.2.1 u.2.2.2.2.2.2.2.2.1 u.2.2.2.2.2.2.2.2.2.1 u.2.2.2.2.2.2.2.2.2.2.1 u.2.2.2.2.2.2.2.2.2.2.2.1 u.2.2.2.2.2.2.2.2.2.2.2.2) (fun (u : (Int32) × (Int64) × (Int32) × (Int32) × (Int32) × (Int32) × (Nat → Int64) × (Nat → Int64) × (Nat → Int64) × (Nat → Int32) × (Nat → Int64) × (Nat → Int64) × (Nat → Int32)) => (cl_X7_seek T o_p0 a_p0 u.1 u.2.1 s_p0_newPoints s_p0_newLines s_p0_faultAt u.2.2.1 u.2.2.2.1 u.2.2.2.2.1 u.2.2.2.2.2.1 u.2.2.2.2.2.2.1 u.2.2.2.2.2.2.2.1 u.2.2.2.2.2.2.2.2.1 u.2.2.2.2.2.2.2.2.2.1 u.2.2.2.2.2.2.2.2.2.2.1 s_p0_lineCount s_p0_lines u.2.2.2.2.2.2.2.2.2.2.2.1 s_p0_points u.2.2.2.2.2.2.2.2.2.2.2.2)) := by
  refine vC_i (cc := cX7_seek) (nL := 9) (by decide +kernel) rfl ⟨rfl, rfl⟩ (Nat.le_of_ble_eq_true rfl) rfl ?_
  intro E el eD X r
  unfold w_X7_seek at h
  refine v_iload_n X 1 dX7_seek_0 rfl rfl ?_
  refine v_callSi0 X (As := [.int x_1]) (rest := []) 1 (c_X7_isNumber (l := vl E) (D := vD E) (T := T) (x_0 := x_1) h) gX7_seek_X7_isNumber rfl rfl (by decide +kernel) ⟨Nat.zero_le _, Nat.zero_le _⟩ ⟨rfl, rfl, by decide, by decide⟩ (Nat.le_of_ble_eq_true rfl) rfl dX7_seek_1 (fun r_1 h => ?_)
  refine v_if_eq X (tgt := 17) dX7_seek_4 (by decide) (fun c_4 => ?_) (fun c_4 => ?_)
  · replace h := h.1 c_4
    refine v_lv (lv' := []) [] rfl ?_
    exact k_X7_seek_17 X r h
  · replace h := h.2 c_4
    refine v_iload_n X 2 dX7_seek_7 rfl rfl ?_
    refine v_iconst X dX7_seek_8 (v := (1 : Int32)) (by decide) ?_
    refine v_ldc X (v := (100000 : Int32)) (List.mem_of_getElem? (i := 1) rfl) dX7_seek_9 ?_
    refine v_callSi0 X (As := [.int x_2, .int (1 : Int32), .int (100000 : Int32)]) (rest := []) 3 (c_X7_in (l := vl E) (D := vD E) (T := T) (x_0 := x_2) (x_1 := (1 : Int32)) (x_2 := (100000 : Int32)) h) gX7_seek_X7_in rfl rfl (by decide +kernel) ⟨Nat.zero_le _, Nat.zero_le _⟩ ⟨rfl, rfl, by decide, by decide⟩ (Nat.le_of_ble_eq_true rfl) rfl dX7_seek_11 (fun r_11 h => ?_)
    refine v_if_ne X (tgt := 19) dX7_seek_14 (by decide) (fun c_14 => ?_) (fun c_14 => ?_)
    · replace h := h.1 c_14
      refine v_aload_n X 0 dX7_seek_19 rfl rfl ?_
      refine v_iload_n X 1 dX7_seek_20 rfl rfl ?_
      refine v_callVi X (As := [.int x_1]) (rest := []) 1 0 (c_X7_looked (l := vl E) (D := vD E) (T := T) (o_p0 := o_p0) (a_p0 := a_p0) (s_p0_finding := s_p0_finding) (s_p0_asked := s_p0_asked) (s_p0_newPoints := s_p0_newPoints) (s_p0_newLines := s_p0_newLines) (s_p0_faultAt := s_p0_faultAt) (s_p0_tries := s_p0_tries) (s_p0_things := s_p0_things) (s_p0_goals := s_p0_goals) (s_p0_level := s_p0_level) (s_p0_findings := s_p0_findings) (s_p0_points := s_p0_points) (x_1 := x_1) h) gX7_seek_X7_looked rfl rfl (by decide +kernel) ⟨Nat.zero_le _, Nat.zero_le _⟩ ⟨rfl, rfl, by decide, by decide⟩ (Nat.le_of_ble_eq_true rfl) rfl rfl (wr := [vJ T (a_p0 20) 47 s_p0_barred, vJ T (a_p0 16) 45 s_p0_bars, vJ T (a_p0 18) 45 s_p0_choices, vJ T (a_p0 17) 45 s_p0_hits, vI T (a_p0 4) 6 s_p0_lineCount, vJ T (a_p0 7) 270 s_p0_lines, vJ T (a_p0 21) 47 s_p0_met, vI T (a_p0 19) 46 s_p0_taken]) [0, 4, 9] [1, 2, 3, 5, 6, 7, 8, 10] rfl rfl rfl rfl (by decide) rfl dX7_seek_21 (fun r_21 u h => ?_)
      obtain ⟨u_21_0, u_21_1⟩ := u
      dsimp only at h
      refine v_ws (ws' := (cl_X7_seek T o_p0 a_p0 u_21_0 s_p0_asked s_p0_newPoints s_p0_newLines s_p0_faultAt s_p0_tries s_p0_things s_p0_goals s_p0_level s_p0_barred s_p0_bars s_p0_choices u_21_1 s_p0_hits s_p0_lineCount s_p0_lines s_p0_met s_p0_points s_p0_taken)) [8, 0, 1, 2, 9, 3, 4, 5, 6, 10, 7] rfl rfl ?_
      refine v_istore X (lv' := [(4, .int r_21), (0, .ref o_p0), (1, .int x_1), (2, .int x_2), (3, .int x_3)]) dX7_seek_24 (by decide) rfl ?_
      refine v_iload X 0 dX7_seek_26 rfl ?_
      refine v_if_ge X (tgt := 34) dX7_seek_28 (by decide) (fun c_28 => ?_) (fun c_28 => ?_)
      · replace h := h.1 c_28
        refine v_aload_n X 1 dX7_seek_34 rfl rfl ?_
        refine v_iload_n X 2 dX7_seek_35 rfl rfl ?_
        refine v_iload_n X 4 dX7_seek_36 rfl rfl ?_
        refine v_callVv X (As := [.int x_1, .int x_3]) (rest := []) 2 0 (c_X7_setSeeking (l := vl E) (D := vD E) (T := T) (o_p0 := o_p0) (a_p0 := a_p0) (s_p0_finding := u_21_0) (s_p0_asked := s_p0_asked) (s_p0_newPoints := s_p0_newPoints) (s_p0_newLines := s_p0_newLines) (s_p0_faultAt := s_p0_faultAt) (s_p0_tries := s_p0_tries) (s_p0_things := s_p0_things) (s_p0_goals := s_p0_goals) (s_p0_level := s_p0_level) (s_p0_bars := s_p0_bars) (s_p0_choices := s_p0_choices) (s_p0_hits := s_p0_hits) (s_p0_lineCount := s_p0_lineCount) (s_p0_lines := s_p0_lines) (s_p0_points := s_p0_points) (x_1 := x_1) (x_2 := x_3) h) gX7_seek_X7_setSeeking rfl rfl (by decide +kernel) ⟨Nat.zero_le _, Nat.zero_le _⟩ ⟨rfl, rfl, by decide, by decide⟩ (Nat.le_of_ble_eq_true rfl) rfl rfl (wr := [vJ T (a_p0 20) 47 s_p0_barred, vI T (a_p0 1) 6 u_21_1, vJ T (a_p0 21) 47 s_p0_met, vI T (a_p0 19) 46 s_p0_taken]) [0, 2, 3, 5, 6, 7, 9] [1, 4, 8, 10] rfl rfl rfl rfl (by decide) rfl dX7_seek_37 (fun u h => ?_)
        obtain ⟨u_37_0, u_37_1, u_37_2, u_37_3, u_37_4⟩ := u
        dsimp only at h
        refine v_ws (ws' := (cl_X7_seek T o_p0 a_p0 u_21_0 s_p0_asked s_p0_newPoints s_p0_newLines s_p0_faultAt s_p0_tries u_37_0 u_37_1 s_p0_level s_p0_barred u_37_2 u_37_3 u_21_1 u_37_4 s_p0_lineCount s_p0_lines s_p0_met s_p0_points s_p0_taken)) [4, 0, 5, 6, 1, 7, 8, 9, 2, 10, 3] rfl rfl ?_
        refine v_aload_n X 1 dX7_seek_40 rfl rfl ?_
        refine v_iconst X dX7_seek_41 (v := (0 : Int32)) (by decide) ?_
        refine v_put X (ws' := (cl_X7_seek T o_p0 a_p0 u_21_0 s_p0_asked s_p0_newPoints s_p0_newLines s_p0_faultAt (0 : Int32) u_37_0 u_37_1 s_p0_level s_p0_barred u_37_2 u_37_3 u_21_1 u_37_4 s_p0_lineCount s_p0_lines s_p0_met s_p0_points s_p0_taken)) 0 13 (F := TX7) (N := 33) iX7_seek_X7 rfl tyX7 tyX7_ok nmX7 rfl (by decide) (List.mem_of_getElem? (i := 2) rfl) rfl rfl rfl rfl rfl (Nat.le_of_ble_eq_true rfl) rfl dX7_seek_42 ?_
        refine v_aload_n X 1 dX7_seek_45 rfl rfl ?_
        refine v_iconst X dX7_seek_46 (v := (1 : Int32)) (by decide) ?_
        refine v_iload_n X 3 dX7_seek_47 rfl rfl ?_
        refine v_callVi X (As := [.int (1 : Int32), .int x_2]) (rest := []) 2 0 (c_X7_next (l := vl E) (D := vD E) (T := T) (o_p0 := o_p0) (a_p0 := a_p0) (s_p0_finding := u_21_0) (s_p0_asked := s_p0_asked) (s_p0_newPoints := s_p0_newPoints) (s_p0_newLines := s_p0_newLines) (s_p0_faultAt := s_p0_faultAt) (s_p0_tries := (0 : Int32)) (s_p0_things := u_37_0) (s_p0_goals := u_37_1) (s_p0_level := s_p0_level) (s_p0_barred := s_p0_barred) (s_p0_bars := u_37_2) (s_p0_choices := u_37_3) (s_p0_hits := u_37_4) (s_p0_met := s_p0_met) (s_p0_taken := s_p0_taken) (x_1 := (1 : Int32)) (x_2 := x_2) h) gX7_seek_X7_next rfl rfl (by decide +kernel) ⟨Nat.zero_le _, Nat.zero_le _⟩ ⟨rfl, rfl, by decide, by decide⟩ (Nat.le_of_ble_eq_true rfl) rfl rfl (wr := [vI T (a_p0 1) 6 u_21_1, vI T (a_p0 4) 6 s_p0_lineCount, vJ T (a_p0 7) 270 s_p0_lines, vI T (a_p0 3) 6 s_p0_points]) [0, 1, 2, 3, 5, 8, 10] [4, 6, 7, 9] rfl rfl rfl rfl (by decide) rfl dX7_seek_48 (fun r_48 u h => ?_)
        obtain ⟨u_48_0, u_48_1, u_48_2, u_48_3, u_48_4⟩ := u
        dsimp only at h
        refine v_ws (ws' := (cl_X7_seek T o_p0 a_p0 u_21_0 s_p0_asked s_p0_newPoints s_p0_newLines s_p0_faultAt u_48_0 u_37_0 u_37_1 u_48_1 u_48_2 u_37_2 u_37_3 u_21_1 u_37_4 s_p0_lineCount s_p0_lines u_48_3 s_p0_points u_48_4)) [4, 5, 6, 7, 0, 8, 1, 2, 9, 3, 10] rfl rfl ?_
        refine v_istore X (lv' := [(5, .int r_48), (4, .int r_21), (0, .ref o_p0), (1, .int x_1), (2, .int x_2), (3, .int x_3)]) dX7_seek_51 (by decide) rfl ?_
        refine v_iload X 0 dX7_seek_53 rfl ?_
        refine v_iconst X dX7_seek_55 (v := (1 : Int32)) (by decide) ?_
        refine v_icmp_ge X (tgt := 72) dX7_seek_56 (by decide) (fun c_56 => ?_) (fun c_56 => ?_)
        · replace h := h.1 c_56
          refine v_lconst X dX7_seek_72 (v := (0 : Int64)) (by decide) ?_
          refine v_lstore X (lv' := [(6, .long (0 : Int64)), (5, .int r_48), (4, .int r_21), (0, .ref o_p0), (1, .int x_1), (2, .int x_2), (3, .int x_3)]) dX7_seek_73 (by decide) rfl ?_
          refine v_iconst X dX7_seek_75 (v := (0 : Int32)) (by decide) ?_
          refine v_istore X (lv' := [(8, .int (0 : Int32)), (6, .long (0 : Int64)), (5, .int r_48), (4, .int r_21), (0, .ref o_p0), (1, .int x_1), (2, .int x_2), (3, .int x_3)]) dX7_seek_76 (by decide) rfl ?_
          refine v_lv (lv' := [(0, .ref o_p0), (6, .long (0 : Int64)), (8, .int (0 : Int32))]) [4, 1, 0] rfl ?_
          obtain ⟨n_, h⟩ := h
          exact k_X7_seek_78 X r n_ _ _ h
        · replace h := h.2 c_56
          refine v_iload X 0 dX7_seek_59 rfl ?_
          refine v_if_ge X (tgt := 69) dX7_seek_61 (by decide) (fun c_61 => ?_) (fun c_61 => ?_)
          · replace h := h.1 c_61
            refine v_bipush X dX7_seek_69 (v := (-9 : Int32)) (by decide) ?_
            refine v_lv (lv' := []) [] rfl ?_
            exact k_X7_seek_71 X r h
          · replace h := h.2 c_61
            refine v_iload X 0 dX7_seek_64 rfl ?_
            refine v_goto X (tgt := 71) dX7_seek_66 (by decide) ?_
            refine v_lv (lv' := []) [] rfl ?_
            exact k_X7_seek_71 X r h
      · replace h := h.2 c_28
        refine v_iload X 0 dX7_seek_31 rfl ?_
        exact r _ _ _ (u_21_0, s_p0_asked, s_p0_tries, s_p0_things, s_p0_goals, s_p0_level, s_p0_barred, s_p0_bars, s_p0_choices, u_21_1, s_p0_hits, s_p0_met, s_p0_taken) _ dX7_seek_33 h rfl
    · replace h := h.2 c_14
      refine v_lv (lv' := []) [] rfl ?_
      exact k_X7_seek_17 X r h
-- X7_ovoid
abbrev cl_X7_ovoid (T : Nat → ClassId) (o_p0 : Nat) (a_p0 : Nat → Nat) (s_p0_finding : Int32) (s_p0_asked : Int64) (s_p0_newPoints : Int32) (s_p0_newLines : Int32) (s_p0_faultAt : Int64) (s_p0_tries : Int32) (s_p0_things : Int32) (s_p0_goals : Int32) (s_p0_level : Int32) (s_p0_barred : Nat → Int64) (s_p0_bars : Nat → Int64) (s_p0_choices : Nat → Int64) (s_p0_findings : Nat → Int32) (s_p0_hits : Nat → Int64) (s_p0_lineCount : Nat → Int32) (s_p0_lines : Nat → Int64) (s_p0_met : Nat → Int64) (s_p0_points : Nat → Int32) (s_p0_taken : Nat → Int32) : va_W := [vO o_p0 4 [.int s_p0_finding, .ref (a_p0 1), .long s_p0_asked, .ref (a_p0 3), .ref (a_p0 4), .ref (a_p0 5), .ref (a_p0 6), .ref (a_p0 7), .int s_p0_newPoints, .int s_p0_newLines, .ref (a_p0 10), .ref (a_p0 11), .long s_p0_faultAt, .int s_p0_tries, .int s_p0_things, .int s_p0_goals, .ref (a_p0 16), .ref (a_p0 17), .ref (a_p0 18), .ref (a_p0 19), .ref (a_p0 20), .ref (a_p0 21), .int s_p0_level, .ref (a_p0 23), .ref (a_p0 24), .ref (a_p0 25), .ref (a_p0 26), .ref (a_p0 27), .ref (a_p0 28), .ref (a_p0 29), .ref (a_p0 30), .ref (a_p0 31), .ref (a_p0 32)], vJ T (a_p0 20) 47 s_p0_barred, vJ T (a_p0 16) 45 s_p0_bars, vJ T (a_p0 18) 45 s_p0_choices, vI T (a_p0 1) 6 s_p0_findings, vJ T (a_p0 17) 45 s_p0_hits, vI T (a_p0 4) 6 s_p0_lineCount, vJ T (a_p0 7) 270 s_p0_lines, vJ T (a_p0 21) 47 s_p0_met, vI T (a_p0 3) 6 s_p0_points, vI T (a_p0 19) 46 s_p0_taken]
abbrev r_X7_ovoid (E : vE) (T : Nat → ClassId) (o_p0 : Nat) (a_p0 : Nat → Nat) (s_p0_newPoints : Int32) (s_p0_newLines : Int32) (s_p0_faultAt : Int64) (s_p0_lineCount : Nat → Int32) (s_p0_lines : Nat → Int64) (s_p0_points : Nat → Int32) (Q : Int32 → (Int32) → (Int64) → (Int32) → (Int32) → (Int32) → (Int32) → (Nat → Int64) → (Nat → Int64) → (Nat → Int64) → (Nat → Int32) → (Nat → Int64) → (Nat → Int64) → (Nat → Int32) → Prop) : Prop := vRi E cX7_ovoid (fun v (u : (Int32) × (Int64) × (Int32) × (Int32) × (Int32) × (Int32) × (Nat → Int64) × (Nat → Int64) × (Nat → Int64) × (Nat → Int32) × (Nat → Int64) × (Nat → Int64) × (Nat → Int32)) => Q v u.1 u.2.1 u.2.2.1 u.2.2.2.1 u.2.2.2.2.1 u.2.2.2.2.2.1 u.2.2.2.2.2.2.1 u.2.2.2.2.2.2.2.1 u.2.2.2.2.2.2.2.2.1 u.2.2.2.2.2.2.2.2.2.1 u.2.2.2.2.2.2.2.2.2.2.1 u.2.2.2.2.2.2.2.2.2.2.2.1 u.2.2.2.2.2.2.2.2.2.2.2.2) (fun (u : (Int32) × (Int64) × (Int32) × (Int32) × (Int32) × (Int32) × (Nat → Int64) × (Nat → Int64) × (Nat → Int64) × (Nat → Int32) × (Nat → Int64) × (Nat → Int64) × (Nat → Int32)) => (cl_X7_ovoid T o_p0 a_p0 u.1 u.2.1 s_p0_newPoints s_p0_newLines s_p0_faultAt u.2.2.1 u.2.2.2.1 u.2.2.2.2.1 u.2.2.2.2.2.1 u.2.2.2.2.2.2.1 u.2.2.2.2.2.2.2.1 u.2.2.2.2.2.2.2.2.1 u.2.2.2.2.2.2.2.2.2.1 u.2.2.2.2.2.2.2.2.2.2.1 s_p0_lineCount s_p0_lines u.2.2.2.2.2.2.2.2.2.2.2.1 s_p0_points u.2.2.2.2.2.2.2.2.2.2.2.2))
def w_X7_ovoid (x_1 : Int32) (x_2 : Int32) (s_p0_finding : Int32) (s_p0_asked : Int64) (s_p0_tries : Int32) (s_p0_things : Int32) (s_p0_goals : Int32) (s_p0_level : Int32) (s_p0_barred : Nat → Int64) (s_p0_bars : Nat → Int64) (s_p0_choices : Nat → Int64) (s_p0_findings : Nat → Int32) (s_p0_hits : Nat → Int64) (s_p0_lineCount : Nat → Int32) (s_p0_lines : Nat → Int64) (s_p0_met : Nat → Int64) (s_p0_points : Nat → Int32) (s_p0_taken : Nat → Int32) (Q : Int32 → (Int32) → (Int64) → (Int32) → (Int32) → (Int32) → (Int32) → (Nat → Int64) → (Nat → Int64) → (Nat → Int64) → (Nat → Int32) → (Nat → Int64) → (Nat → Int64) → (Nat → Int32) → Prop) : Prop := (w_X7_seek x_1 x_2 (1 : Int32) s_p0_finding s_p0_asked s_p0_tries s_p0_things s_p0_goals s_p0_level s_p0_barred s_p0_bars s_p0_choices s_p0_findings s_p0_hits s_p0_lineCount s_p0_lines s_p0_met s_p0_points s_p0_taken (fun (r_4 : Int32) (u_4_0 : Int32) (u_4_1 : Int64) (u_4_2 : Int32) (u_4_3 : Int32) (u_4_4 : Int32) (u_4_5 : Int32) (u_4_6 : Nat → Int64) (u_4_7 : Nat → Int64) (u_4_8 : Nat → Int64) (u_4_9 : Nat → Int32) (u_4_10 : Nat → Int64) (u_4_11 : Nat → Int64) (u_4_12 : Nat → Int32) => (Q r_4 u_4_0 u_4_1 u_4_2 u_4_3 u_4_4 u_4_5 u_4_6 u_4_7 u_4_8 u_4_9 u_4_10 u_4_11 u_4_12)))
-- X7_ovoid
set_option maxHeartbeats 4000000 in
set_option maxRecDepth 100000 in
theorem c_X7_ovoid {l : Launch} {D : va_G} {T : Nat → ClassId} {o_p0 : Nat} {a_p0 : Nat → Nat} {s_p0_finding : Int32} {s_p0_asked : Int64} {s_p0_newPoints : Int32} {s_p0_newLines : Int32} {s_p0_faultAt : Int64} {s_p0_tries : Int32} {s_p0_things : Int32} {s_p0_goals : Int32} {s_p0_level : Int32} {s_p0_barred : Nat → Int64} {s_p0_bars : Nat → Int64} {s_p0_choices : Nat → Int64} {s_p0_findings : Nat → Int32} {s_p0_hits : Nat → Int64} {s_p0_lineCount : Nat → Int32} {s_p0_lines : Nat → Int64} {s_p0_met : Nat → Int64} {s_p0_points : Nat → Int32} {s_p0_taken : Nat → Int32} {x_1 : Int32} {x_2 : Int32} {Q : Int32 → (Int32) → (Int64) → (Int32) → (Int32) → (Int32) → (Int32) → (Nat → Int64) → (Nat → Int64) → (Nat → Int64) → (Nat → Int32) → (Nat → Int64) → (Nat → Int64) → (Nat → Int32) → Prop} (h : w_X7_ovoid x_1 x_2 s_p0_finding s_p0_asked s_p0_tries s_p0_things s_p0_goals s_p0_level s_p0_barred s_p0_bars s_p0_choices s_p0_findings s_p0_hits s_p0_lineCount s_p0_lines s_p0_met s_p0_points s_p0_taken Q) : vCi l D (vT T) yX7_ovoid wsX7_ovoid (vr 4 99) [.ref o_p0, .int x_1, .int x_2] (cl_X7_ovoid T o_p0 a_p0 s_p0_finding s_p0_asked s_p0_newPoints s_p0_newLines s_p0_faultAt s_p0_tries s_p0_things s_p0_goals s_p0_level s_p0_barred s_p0_bars s_p0_choices s_p0_findings s_p0_hits s_p0_lineCount s_p0_lines s_p0_met s_p0_points s_p0_taken) (fun v (u : (Int32) × (Int64) × (Int32) × (Int32) × (Int32) × (Int32) × (Nat → Int64) × (Nat → Int64) × (Nat → Int64) × (Nat → Int32) × (Nat → Int64) × (Nat → Int64) × (Nat → Int32)) => Q v u.1 u.2.1 u.2.2.1 u.2.2.2.1 u.2.2.2.2.1 u.2.2.2.2.2.1 u.2.2.2.2.2.2.1 u.2.2.2.2.2.2.2.1 u.2.2.2.2.2.2.2.2.1 u.2.2.2.2.2.2.2.2.2.1 u.2.2.2.2.2.2.2.2.2.2.1 u.2.2.2.2.2.2.2.2.2.2.2.1 u.2.2.2.2.2.2.2.2.2.2.2.2) (fun (u : (Int32) × (Int64) × (Int32) × (Int32) × (Int32) × (Int32) × (Nat → Int64) × (Nat → Int64) × (Nat → Int64) × (Nat → Int32) × (Nat → Int64) × (Nat → Int64) × (Nat → Int32)) => (cl_X7_ovoid T o_p0 a_p0 u.1 u.2.1 s_p0_newPoints s_p0_newLines s_p0_faultAt u.2.2.1 u.2.2.2.1 u.2.2.2.2.1 u.2.2.2.2.2.1 u.2.2.2.2.2.2.1 u.2.2.2.2.2.2.2.1 u.2.2.2.2.2.2.2.2.1 u.2.2.2.2.2.2.2.2.2.1 u.2.2.2.2.2.2.2.2.2.2.1 s_p0_lineCount s_p0_lines u.2.2.2.2.2.2.2.2.2.2.2.1 s_p0_points u.2.2.2.2.2.2.2.2.2.2.2.2)) := by
  refine vC_i (cc := cX7_ovoid) (nL := 3) (by decide +kernel) rfl ⟨rfl, rfl⟩ (Nat.le_of_ble_eq_true rfl) rfl ?_
  intro E el eD X r
  unfold w_X7_ovoid at h
  refine v_aload_n X 0 dX7_ovoid_0 rfl rfl ?_
  refine v_iload_n X 1 dX7_ovoid_1 rfl rfl ?_
  refine v_iload_n X 2 dX7_ovoid_2 rfl rfl ?_
  refine v_iconst X dX7_ovoid_3 (v := (1 : Int32)) (by decide) ?_
  refine v_callVi X (As := [.int x_1, .int x_2, .int (1 : Int32)]) (rest := []) 3 0 (c_X7_seek (l := vl E) (D := vD E) (T := T) (o_p0 := o_p0) (a_p0 := a_p0) (s_p0_finding := s_p0_finding) (s_p0_asked := s_p0_asked) (s_p0_newPoints := s_p0_newPoints) (s_p0_newLines := s_p0_newLines) (s_p0_faultAt := s_p0_faultAt) (s_p0_tries := s_p0_tries) (s_p0_things := s_p0_things) (s_p0_goals := s_p0_goals) (s_p0_level := s_p0_level) (s_p0_barred := s_p0_barred) (s_p0_bars := s_p0_bars) (s_p0_choices := s_p0_choices) (s_p0_findings := s_p0_findings) (s_p0_hits := s_p0_hits) (s_p0_lineCount := s_p0_lineCount) (s_p0_lines := s_p0_lines) (s_p0_met := s_p0_met) (s_p0_points := s_p0_points) (s_p0_taken := s_p0_taken) (x_1 := x_1) (x_2 := x_2) (x_3 := (1 : Int32)) h) gX7_ovoid_X7_seek rfl rfl (by decide +kernel) ⟨Nat.zero_le _, Nat.zero_le _⟩ ⟨rfl, rfl, by decide, by decide⟩ (Nat.le_of_ble_eq_true rfl) rfl rfl (wr := []) [0, 1, 2, 3, 4, 5, 6, 7, 8, 9, 10] [] rfl rfl rfl rfl (by decide) rfl dX7_ovoid_4 (fun r_4 u h => ?_)
  obtain ⟨u_4_0, u_4_1, u_4_2, u_4_3, u_4_4, u_4_5, u_4_6, u_4_7, u_4_8, u_4_9, u_4_10, u_4_11, u_4_12⟩ := u
  dsimp only at h
  refine v_ws (ws' := (cl_X7_ovoid T o_p0 a_p0 u_4_0 u_4_1 s_p0_newPoints s_p0_newLines s_p0_faultAt u_4_2 u_4_3 u_4_4 u_4_5 u_4_6 u_4_7 u_4_8 u_4_9 u_4_10 s_p0_lineCount s_p0_lines u_4_11 s_p0_points u_4_12)) [0, 1, 2, 3, 4, 5, 6, 7, 8, 9, 10] rfl rfl ?_
  exact r _ _ _ (u_4_0, u_4_1, u_4_2, u_4_3, u_4_4, u_4_5, u_4_6, u_4_7, u_4_8, u_4_9, u_4_10, u_4_11, u_4_12) _ dX7_ovoid_7 h rfl
-- X7_spread
abbrev cl_X7_spread (T : Nat → ClassId) (o_p0 : Nat) (a_p0 : Nat → Nat) (s_p0_finding : Int32) (s_p0_asked : Int64) (s_p0_newPoints : Int32) (s_p0_newLines : Int32) (s_p0_faultAt : Int64) (s_p0_tries : Int32) (s_p0_things : Int32) (s_p0_goals : Int32) (s_p0_level : Int32) (s_p0_barred : Nat → Int64) (s_p0_bars : Nat → Int64) (s_p0_choices : Nat → Int64) (s_p0_findings : Nat → Int32) (s_p0_hits : Nat → Int64) (s_p0_lineCount : Nat → Int32) (s_p0_lines : Nat → Int64) (s_p0_met : Nat → Int64) (s_p0_points : Nat → Int32) (s_p0_taken : Nat → Int32) : va_W := [vO o_p0 4 [.int s_p0_finding, .ref (a_p0 1), .long s_p0_asked, .ref (a_p0 3), .ref (a_p0 4), .ref (a_p0 5), .ref (a_p0 6), .ref (a_p0 7), .int s_p0_newPoints, .int s_p0_newLines, .ref (a_p0 10), .ref (a_p0 11), .long s_p0_faultAt, .int s_p0_tries, .int s_p0_things, .int s_p0_goals, .ref (a_p0 16), .ref (a_p0 17), .ref (a_p0 18), .ref (a_p0 19), .ref (a_p0 20), .ref (a_p0 21), .int s_p0_level, .ref (a_p0 23), .ref (a_p0 24), .ref (a_p0 25), .ref (a_p0 26), .ref (a_p0 27), .ref (a_p0 28), .ref (a_p0 29), .ref (a_p0 30), .ref (a_p0 31), .ref (a_p0 32)], vJ T (a_p0 20) 47 s_p0_barred, vJ T (a_p0 16) 45 s_p0_bars, vJ T (a_p0 18) 45 s_p0_choices, vI T (a_p0 1) 6 s_p0_findings, vJ T (a_p0 17) 45 s_p0_hits, vI T (a_p0 4) 6 s_p0_lineCount, vJ T (a_p0 7) 270 s_p0_lines, vJ T (a_p0 21) 47 s_p0_met, vI T (a_p0 3) 6 s_p0_points, vI T (a_p0 19) 46 s_p0_taken]
abbrev r_X7_spread (E : vE) (T : Nat → ClassId) (o_p0 : Nat) (a_p0 : Nat → Nat) (s_p0_newPoints : Int32) (s_p0_newLines : Int32) (s_p0_faultAt : Int64) (s_p0_lineCount : Nat → Int32) (s_p0_lines : Nat → Int64) (s_p0_points : Nat → Int32) (Q : Int32 → (Int32) → (Int64) → (Int32) → (Int32) → (Int32) → (Int32) → (Nat → Int64) → (Nat → Int64) → (Nat → Int64) → (Nat → Int32) → (Nat → Int64) → (Nat → Int64) → (Nat → Int32) → Prop) : Prop := vRi E cX7_spread (fun v (u : (Int32) × (Int64) × (Int32) × (Int32) × (Int32) × (Int32) × (Nat → Int64) × (Nat → Int64) × (Nat → Int64) × (Nat → Int32) × (Nat → Int64) × (Nat → Int64) × (Nat → Int32)) => Q v u.1 u.2.1 u.2.2.1 u.2.2.2.1 u.2.2.2.2.1 u.2.2.2.2.2.1 u.2.2.2.2.2.2.1 u.2.2.2.2.2.2.2.1 u.2.2.2.2.2.2.2.2.1 u.2.2.2.2.2.2.2.2.2.1 u.2.2.2.2.2.2.2.2.2.2.1 u.2.2.2.2.2.2.2.2.2.2.2.1 u.2.2.2.2.2.2.2.2.2.2.2.2) (fun (u : (Int32) × (Int64) × (Int32) × (Int32) × (Int32) × (Int32) × (Nat → Int64) × (Nat → Int64) × (Nat → Int64) × (Nat → Int32) × (Nat → Int64) × (Nat → Int64) × (Nat → Int32)) => (cl_X7_spread T o_p0 a_p0 u.1 u.2.1 s_p0_newPoints s_p0_newLines s_p0_faultAt u.2.2.1 u.2.2.2.1 u.2.2.2.2.1 u.2.2.2.2.2.1 u.2.2.2.2.2.2.1 u.2.2.2.2.2.2.2.1 u.2.2.2.2.2.2.2.2.1 u.2.2.2.2.2.2.2.2.2.1 u.2.2.2.2.2.2.2.2.2.2.1 s_p0_lineCount s_p0_lines u.2.2.2.2.2.2.2.2.2.2.2.1 s_p0_points u.2.2.2.2.2.2.2.2.2.2.2.2))
def w_X7_spread (x_1 : Int32) (x_2 : Int32) (s_p0_finding : Int32) (s_p0_asked : Int64) (s_p0_tries : Int32) (s_p0_things : Int32) (s_p0_goals : Int32) (s_p0_level : Int32) (s_p0_barred : Nat → Int64) (s_p0_bars : Nat → Int64) (s_p0_choices : Nat → Int64) (s_p0_findings : Nat → Int32) (s_p0_hits : Nat → Int64) (s_p0_lineCount : Nat → Int32) (s_p0_lines : Nat → Int64) (s_p0_met : Nat → Int64) (s_p0_points : Nat → Int32) (s_p0_taken : Nat → Int32) (Q : Int32 → (Int32) → (Int64) → (Int32) → (Int32) → (Int32) → (Int32) → (Nat → Int64) → (Nat → Int64) → (Nat → Int64) → (Nat → Int32) → (Nat → Int64) → (Nat → Int64) → (Nat → Int32) → Prop) : Prop := (w_X7_seek x_1 x_2 (0 : Int32) s_p0_finding s_p0_asked s_p0_tries s_p0_things s_p0_goals s_p0_level s_p0_barred s_p0_bars s_p0_choices s_p0_findings s_p0_hits s_p0_lineCount s_p0_lines s_p0_met s_p0_points s_p0_taken (fun (r_4 : Int32) (u_4_0 : Int32) (u_4_1 : Int64) (u_4_2 : Int32) (u_4_3 : Int32) (u_4_4 : Int32) (u_4_5 : Int32) (u_4_6 : Nat → Int64) (u_4_7 : Nat → Int64) (u_4_8 : Nat → Int64) (u_4_9 : Nat → Int32) (u_4_10 : Nat → Int64) (u_4_11 : Nat → Int64) (u_4_12 : Nat → Int32) => (Q r_4 u_4_0 u_4_1 u_4_2 u_4_3 u_4_4 u_4_5 u_4_6 u_4_7 u_4_8 u_4_9 u_4_10 u_4_11 u_4_12)))
-- X7_spread
set_option maxHeartbeats 4000000 in
set_option maxRecDepth 100000 in
theorem c_X7_spread {l : Launch} {D : va_G} {T : Nat → ClassId} {o_p0 : Nat} {a_p0 : Nat → Nat} {s_p0_finding : Int32} {s_p0_asked : Int64} {s_p0_newPoints : Int32} {s_p0_newLines : Int32} {s_p0_faultAt : Int64} {s_p0_tries : Int32} {s_p0_things : Int32} {s_p0_goals : Int32} {s_p0_level : Int32} {s_p0_barred : Nat → Int64} {s_p0_bars : Nat → Int64} {s_p0_choices : Nat → Int64} {s_p0_findings : Nat → Int32} {s_p0_hits : Nat → Int64} {s_p0_lineCount : Nat → Int32} {s_p0_lines : Nat → Int64} {s_p0_met : Nat → Int64} {s_p0_points : Nat → Int32} {s_p0_taken : Nat → Int32} {x_1 : Int32} {x_2 : Int32} {Q : Int32 → (Int32) → (Int64) → (Int32) → (Int32) → (Int32) → (Int32) → (Nat → Int64) → (Nat → Int64) → (Nat → Int64) → (Nat → Int32) → (Nat → Int64) → (Nat → Int64) → (Nat → Int32) → Prop} (h : w_X7_spread x_1 x_2 s_p0_finding s_p0_asked s_p0_tries s_p0_things s_p0_goals s_p0_level s_p0_barred s_p0_bars s_p0_choices s_p0_findings s_p0_hits s_p0_lineCount s_p0_lines s_p0_met s_p0_points s_p0_taken Q) : vCi l D (vT T) yX7_spread wsX7_spread (vr 4 99) [.ref o_p0, .int x_1, .int x_2] (cl_X7_spread T o_p0 a_p0 s_p0_finding s_p0_asked s_p0_newPoints s_p0_newLines s_p0_faultAt s_p0_tries s_p0_things s_p0_goals s_p0_level s_p0_barred s_p0_bars s_p0_choices s_p0_findings s_p0_hits s_p0_lineCount s_p0_lines s_p0_met s_p0_points s_p0_taken) (fun v (u : (Int32) × (Int64) × (Int32) × (Int32) × (Int32) × (Int32) × (Nat → Int64) × (Nat → Int64) × (Nat → Int64) × (Nat → Int32) × (Nat → Int64) × (Nat → Int64) × (Nat → Int32)) => Q v u.1 u.2.1 u.2.2.1 u.2.2.2.1 u.2.2.2.2.1 u.2.2.2.2.2.1 u.2.2.2.2.2.2.1 u.2.2.2.2.2.2.2.1 u.2.2.2.2.2.2.2.2.1 u.2.2.2.2.2.2.2.2.2.1 u.2.2.2.2.2.2.2.2.2.2.1 u.2.2.2.2.2.2.2.2.2.2.2.1 u.2.2.2.2.2.2.2.2.2.2.2.2) (fun (u : (Int32) × (Int64) × (Int32) × (Int32) × (Int32) × (Int32) × (Nat → Int64) × (Nat → Int64) × (Nat → Int64) × (Nat → Int32) × (Nat → Int64) × (Nat → Int64) × (Nat → Int32)) => (cl_X7_spread T o_p0 a_p0 u.1 u.2.1 s_p0_newPoints s_p0_newLines s_p0_faultAt u.2.2.1 u.2.2.2.1 u.2.2.2.2.1 u.2.2.2.2.2.1 u.2.2.2.2.2.2.1 u.2.2.2.2.2.2.2.1 u.2.2.2.2.2.2.2.2.1 u.2.2.2.2.2.2.2.2.2.1 u.2.2.2.2.2.2.2.2.2.2.1 s_p0_lineCount s_p0_lines u.2.2.2.2.2.2.2.2.2.2.2.1 s_p0_points u.2.2.2.2.2.2.2.2.2.2.2.2)) := by
  refine vC_i (cc := cX7_spread) (nL := 3) (by decide +kernel) rfl ⟨rfl, rfl⟩ (Nat.le_of_ble_eq_true rfl) rfl ?_
  intro E el eD X r
  unfold w_X7_spread at h
  refine v_aload_n X 0 dX7_spread_0 rfl rfl ?_
  refine v_iload_n X 1 dX7_spread_1 rfl rfl ?_
  refine v_iload_n X 2 dX7_spread_2 rfl rfl ?_
  refine v_iconst X dX7_spread_3 (v := (0 : Int32)) (by decide) ?_
  refine v_callVi X (As := [.int x_1, .int x_2, .int (0 : Int32)]) (rest := []) 3 0 (c_X7_seek (l := vl E) (D := vD E) (T := T) (o_p0 := o_p0) (a_p0 := a_p0) (s_p0_finding := s_p0_finding) (s_p0_asked := s_p0_asked) (s_p0_newPoints := s_p0_newPoints) (s_p0_newLines := s_p0_newLines) (s_p0_faultAt := s_p0_faultAt) (s_p0_tries := s_p0_tries) (s_p0_things := s_p0_things) (s_p0_goals := s_p0_goals) (s_p0_level := s_p0_level) (s_p0_barred := s_p0_barred) (s_p0_bars := s_p0_bars) (s_p0_choices := s_p0_choices) (s_p0_findings := s_p0_findings) (s_p0_hits := s_p0_hits) (s_p0_lineCount := s_p0_lineCount) (s_p0_lines := s_p0_lines) (s_p0_met := s_p0_met) (s_p0_points := s_p0_points) (s_p0_taken := s_p0_taken) (x_1 := x_1) (x_2 := x_2) (x_3 := (0 : Int32)) h) gX7_spread_X7_seek rfl rfl (by decide +kernel) ⟨Nat.zero_le _, Nat.zero_le _⟩ ⟨rfl, rfl, by decide, by decide⟩ (Nat.le_of_ble_eq_true rfl) rfl rfl (wr := []) [0, 1, 2, 3, 4, 5, 6, 7, 8, 9, 10] [] rfl rfl rfl rfl (by decide) rfl dX7_spread_4 (fun r_4 u h => ?_)
  obtain ⟨u_4_0, u_4_1, u_4_2, u_4_3, u_4_4, u_4_5, u_4_6, u_4_7, u_4_8, u_4_9, u_4_10, u_4_11, u_4_12⟩ := u
  dsimp only at h
  refine v_ws (ws' := (cl_X7_spread T o_p0 a_p0 u_4_0 u_4_1 s_p0_newPoints s_p0_newLines s_p0_faultAt u_4_2 u_4_3 u_4_4 u_4_5 u_4_6 u_4_7 u_4_8 u_4_9 u_4_10 s_p0_lineCount s_p0_lines u_4_11 s_p0_points u_4_12)) [0, 1, 2, 3, 4, 5, 6, 7, 8, 9, 10] rfl rfl ?_
  exact r _ _ _ (u_4_0, u_4_1, u_4_2, u_4_3, u_4_4, u_4_5, u_4_6, u_4_7, u_4_8, u_4_9, u_4_10, u_4_11, u_4_12) _ dX7_spread_7 h rfl
-- X7_ovoids
abbrev cl_X7_ovoids (T : Nat → ClassId) (o_p0 : Nat) (a_p0 : Nat → Nat) (s_p0_finding : Int32) (s_p0_asked : Int64) (s_p0_newPoints : Int32) (s_p0_newLines : Int32) (s_p0_faultAt : Int64) (s_p0_tries : Int32) (s_p0_things : Int32) (s_p0_goals : Int32) (s_p0_level : Int32) (s_p0_barred : Nat → Int64) (s_p0_bars : Nat → Int64) (s_p0_choices : Nat → Int64) (s_p0_findings : Nat → Int32) (s_p0_hits : Nat → Int64) (s_p0_lineCount : Nat → Int32) (s_p0_lines : Nat → Int64) (s_p0_met : Nat → Int64) (s_p0_points : Nat → Int32) (s_p0_taken : Nat → Int32) : va_W := [vO o_p0 4 [.int s_p0_finding, .ref (a_p0 1), .long s_p0_asked, .ref (a_p0 3), .ref (a_p0 4), .ref (a_p0 5), .ref (a_p0 6), .ref (a_p0 7), .int s_p0_newPoints, .int s_p0_newLines, .ref (a_p0 10), .ref (a_p0 11), .long s_p0_faultAt, .int s_p0_tries, .int s_p0_things, .int s_p0_goals, .ref (a_p0 16), .ref (a_p0 17), .ref (a_p0 18), .ref (a_p0 19), .ref (a_p0 20), .ref (a_p0 21), .int s_p0_level, .ref (a_p0 23), .ref (a_p0 24), .ref (a_p0 25), .ref (a_p0 26), .ref (a_p0 27), .ref (a_p0 28), .ref (a_p0 29), .ref (a_p0 30), .ref (a_p0 31), .ref (a_p0 32)], vJ T (a_p0 20) 47 s_p0_barred, vJ T (a_p0 16) 45 s_p0_bars, vJ T (a_p0 18) 45 s_p0_choices, vI T (a_p0 1) 6 s_p0_findings, vJ T (a_p0 17) 45 s_p0_hits, vI T (a_p0 4) 6 s_p0_lineCount, vJ T (a_p0 7) 270 s_p0_lines, vJ T (a_p0 21) 47 s_p0_met, vI T (a_p0 3) 6 s_p0_points, vI T (a_p0 19) 46 s_p0_taken]
abbrev r_X7_ovoids (E : vE) (T : Nat → ClassId) (o_p0 : Nat) (a_p0 : Nat → Nat) (s_p0_newPoints : Int32) (s_p0_newLines : Int32) (s_p0_faultAt : Int64) (s_p0_lineCount : Nat → Int32) (s_p0_lines : Nat → Int64) (s_p0_points : Nat → Int32) (Q : Int32 → (Int32) → (Int64) → (Int32) → (Int32) → (Int32) → (Int32) → (Nat → Int64) → (Nat → Int64) → (Nat → Int64) → (Nat → Int32) → (Nat → Int64) → (Nat → Int64) → (Nat → Int32) → Prop) : Prop := vRi E cX7_ovoids (fun v (u : (Int32) × (Int64) × (Int32) × (Int32) × (Int32) × (Int32) × (Nat → Int64) × (Nat → Int64) × (Nat → Int64) × (Nat → Int32) × (Nat → Int64) × (Nat → Int64) × (Nat → Int32)) => Q v u.1 u.2.1 u.2.2.1 u.2.2.2.1 u.2.2.2.2.1 u.2.2.2.2.2.1 u.2.2.2.2.2.2.1 u.2.2.2.2.2.2.2.1 u.2.2.2.2.2.2.2.2.1 u.2.2.2.2.2.2.2.2.2.1 u.2.2.2.2.2.2.2.2.2.2.1 u.2.2.2.2.2.2.2.2.2.2.2.1 u.2.2.2.2.2.2.2.2.2.2.2.2) (fun (u : (Int32) × (Int64) × (Int32) × (Int32) × (Int32) × (Int32) × (Nat → Int64) × (Nat → Int64) × (Nat → Int64) × (Nat → Int32) × (Nat → Int64) × (Nat → Int64) × (Nat → Int32)) => (cl_X7_ovoids T o_p0 a_p0 u.1 u.2.1 s_p0_newPoints s_p0_newLines s_p0_faultAt u.2.2.1 u.2.2.2.1 u.2.2.2.2.1 u.2.2.2.2.2.1 u.2.2.2.2.2.2.1 u.2.2.2.2.2.2.2.1 u.2.2.2.2.2.2.2.2.1 u.2.2.2.2.2.2.2.2.2.1 u.2.2.2.2.2.2.2.2.2.2.1 s_p0_lineCount s_p0_lines u.2.2.2.2.2.2.2.2.2.2.2.1 s_p0_points u.2.2.2.2.2.2.2.2.2.2.2.2))
def w_X7_ovoids_93 (t_0 : Int32) (s_p0_finding : Int32) (s_p0_asked : Int64) (s_p0_tries : Int32) (s_p0_things : Int32) (s_p0_goals : Int32) (s_p0_level : Int32) (s_p0_barred : Nat → Int64) (s_p0_bars : Nat → Int64) (s_p0_choices : Nat → Int64) (s_p0_findings : Nat → Int32) (s_p0_hits : Nat → Int64) (s_p0_lineCount : Nat → Int32) (s_p0_lines : Nat → Int64) (s_p0_met : Nat → Int64) (s_p0_points : Nat → Int32) (s_p0_taken : Nat → Int32) (Q : Int32 → (Int32) → (Int64) → (Int32) → (Int32) → (Int32) → (Int32) → (Nat → Int64) → (Nat → Int64) → (Nat → Int64) → (Nat → Int32) → (Nat → Int64) → (Nat → Int64) → (Nat → Int32) → Prop) : Prop := (Q t_0 s_p0_finding s_p0_asked s_p0_tries s_p0_things s_p0_goals s_p0_level s_p0_barred s_p0_bars s_p0_choices s_p0_findings s_p0_hits s_p0_met s_p0_taken)
def w_X7_ovoids_53s (x_2 : Int32) (s_p0_finding : Int32) (s_p0_asked : Int64) (s_p0_things : Int32) (s_p0_goals : Int32) (s_p0_bars : Nat → Int64) (s_p0_choices : Nat → Int64) (s_p0_findings : Nat → Int32) (s_p0_hits : Nat → Int64) (s_p0_lineCount : Nat → Int32) (s_p0_lines : Nat → Int64) (s_p0_points : Nat → Int32) (Q : Int32 → (Int32) → (Int64) → (Int32) → (Int32) → (Int32) → (Int32) → (Nat → Int64) → (Nat → Int64) → (Nat → Int64) → (Nat → Int32) → (Nat → Int64) → (Nat → Int64) → (Nat → Int32) → Prop) (K_53 : (Int64) → (Int32) → (Int32) → (Int32) → (Nat → Int64) → (Nat → Int64) → (Nat → Int32) → Prop) (x_4 : Int64) (x_6 : Int32) (s_p0_tries : Int32) (s_p0_level : Int32) (s_p0_barred : Nat → Int64) (s_p0_met : Nat → Int64) (s_p0_taken : Nat → Int32) : Prop := ((¬ x_6 = (1 : Int32) → ((0 ≤ x_6 → (w_X7_ask x_4 (1 : Int32) s_p0_asked (fun (r_90 : Int32) (u_90_0 : Int64) => (w_X7_ovoids_93 r_90 s_p0_finding u_90_0 s_p0_tries s_p0_things s_p0_goals s_p0_level s_p0_barred s_p0_bars s_p0_choices s_p0_findings s_p0_hits s_p0_lineCount s_p0_lines s_p0_met s_p0_points s_p0_taken Q)))) ∧ (¬ 0 ≤ x_6 → (w_X7_ovoids_93 x_6 s_p0_finding s_p0_asked s_p0_tries s_p0_things s_p0_goals s_p0_level s_p0_barred s_p0_bars s_p0_choices s_p0_findings s_p0_hits s_p0_lineCount s_p0_lines s_p0_met s_p0_points s_p0_taken Q)))) ∧ (x_6 = (1 : Int32) → (w_X7_next (0 : Int32) x_2 s_p0_tries s_p0_things s_p0_goals s_p0_level s_p0_barred s_p0_bars s_p0_choices s_p0_hits s_p0_met s_p0_taken (fun (r_68 : Int32) (u_68_0 : Int32) (u_68_1 : Int32) (u_68_2 : Nat → Int64) (u_68_3 : Nat → Int64) (u_68_4 : Nat → Int32) => (K_53 (x_4 + (1 : Int64)) r_68 u_68_0 u_68_1 u_68_2 u_68_3 u_68_4)))))
def w_X7_ovoids_53 (x_2 : Int32) (s_p0_finding : Int32) (s_p0_asked : Int64) (s_p0_things : Int32) (s_p0_goals : Int32) (s_p0_bars : Nat → Int64) (s_p0_choices : Nat → Int64) (s_p0_findings : Nat → Int32) (s_p0_hits : Nat → Int64) (s_p0_lineCount : Nat → Int32) (s_p0_lines : Nat → Int64) (s_p0_points : Nat → Int32) (Q : Int32 → (Int32) → (Int64) → (Int32) → (Int32) → (Int32) → (Int32) → (Nat → Int64) → (Nat → Int64) → (Nat → Int64) → (Nat → Int32) → (Nat → Int64) → (Nat → Int64) → (Nat → Int32) → Prop) : Nat → (Int64) → (Int32) → (Int32) → (Int32) → (Nat → Int64) → (Nat → Int64) → (Nat → Int32) → Prop
  | 0 => fun _ _ _ _ _ _ _ => False
  | n_ + 1 => w_X7_ovoids_53s x_2 s_p0_finding s_p0_asked s_p0_things s_p0_goals s_p0_bars s_p0_choices s_p0_findings s_p0_hits s_p0_lineCount s_p0_lines s_p0_points Q (w_X7_ovoids_53 x_2 s_p0_finding s_p0_asked s_p0_things s_p0_goals s_p0_bars s_p0_choices s_p0_findings s_p0_hits s_p0_lineCount s_p0_lines s_p0_points Q n_)
def w_X7_ovoids_17 (s_p0_finding : Int32) (s_p0_asked : Int64) (s_p0_tries : Int32) (s_p0_things : Int32) (s_p0_goals : Int32) (s_p0_level : Int32) (s_p0_barred : Nat → Int64) (s_p0_bars : Nat → Int64) (s_p0_choices : Nat → Int64) (s_p0_findings : Nat → Int32) (s_p0_hits : Nat → Int64) (s_p0_lineCount : Nat → Int32) (s_p0_lines : Nat → Int64) (s_p0_met : Nat → Int64) (s_p0_points : Nat → Int32) (s_p0_taken : Nat → Int32) (Q : Int32 → (Int32) → (Int64) → (Int32) → (Int32) → (Int32) → (Int32) → (Nat → Int64) → (Nat → Int64) → (Nat → Int64) → (Nat → Int32) → (Nat → Int64) → (Nat → Int64) → (Nat → Int32) → Prop) : Prop := (Q (-1 : Int32) s_p0_finding s_p0_asked s_p0_tries s_p0_things s_p0_goals s_p0_level s_p0_barred s_p0_bars s_p0_choices s_p0_findings s_p0_hits s_p0_met s_p0_taken)
def w_X7_ovoids (x_1 : Int32) (x_2 : Int32) (s_p0_finding : Int32) (s_p0_asked : Int64) (s_p0_tries : Int32) (s_p0_things : Int32) (s_p0_goals : Int32) (s_p0_level : Int32) (s_p0_barred : Nat → Int64) (s_p0_bars : Nat → Int64) (s_p0_choices : Nat → Int64) (s_p0_findings : Nat → Int32) (s_p0_hits : Nat → Int64) (s_p0_lineCount : Nat → Int32) (s_p0_lines : Nat → Int64) (s_p0_met : Nat → Int64) (s_p0_points : Nat → Int32) (s_p0_taken : Nat → Int32) (Q : Int32 → (Int32) → (Int64) → (Int32) → (Int32) → (Int32) → (Int32) → (Nat → Int64) → (Nat → Int64) → (Nat → Int64) → (Nat → Int32) → (Nat → Int64) → (Nat → Int64) → (Nat → Int32) → Prop) : Prop := (w_X7_isNumber x_1 (fun (r_1 : Int32) => ((r_1 = 0 → (w_X7_ovoids_17 s_p0_finding s_p0_asked s_p0_tries s_p0_things s_p0_goals s_p0_level s_p0_barred s_p0_bars s_p0_choices s_p0_findings s_p0_hits s_p0_lineCount s_p0_lines s_p0_met s_p0_points s_p0_taken Q)) ∧ (¬ r_1 = 0 → (w_X7_in x_2 (1 : Int32) (100000 : Int32) (fun (r_11 : Int32) => ((¬ r_11 = 0 → (w_X7_looked x_1 s_p0_finding s_p0_findings s_p0_points (fun (r_21 : Int32) (u_21_0 : Int32) (u_21_1 : Nat → Int32) => ((0 ≤ r_21 → (w_X7_setSeeking x_1 (1 : Int32) s_p0_things s_p0_goals s_p0_bars s_p0_choices s_p0_hits s_p0_lineCount s_p0_lines s_p0_points (fun (u_34_0 : Int32) (u_34_1 : Int32) (u_34_2 : Nat → Int64) (u_34_3 : Nat → Int64) (u_34_4 : Nat → Int64) => (w_X7_next (1 : Int32) x_2 (0 : Int32) u_34_0 u_34_1 s_p0_level s_p0_barred u_34_2 u_34_3 u_34_4 s_p0_met s_p0_taken (fun (r_48 : Int32) (u_48_0 : Int32) (u_48_1 : Int32) (u_48_2 : Nat → Int64) (u_48_3 : Nat → Int64) (u_48_4 : Nat → Int32) => (∃ n_, w_X7_ovoids_53 x_2 u_21_0 s_p0_asked u_34_0 u_34_1 u_34_2 u_34_3 u_21_1 u_34_4 s_p0_lineCount s_p0_lines s_p0_points Q n_ (0 : Int64) r_48 u_48_0 u_48_1 u_48_2 u_48_3 u_48_4)))))) ∧ (¬ 0 ≤ r_21 → (Q r_21 u_21_0 s_p0_asked s_p0_tries s_p0_things s_p0_goals s_p0_level s_p0_barred s_p0_bars s_p0_choices u_21_1 s_p0_hits s_p0_met s_p0_taken)))))) ∧ (r_11 = 0 → (w_X7_ovoids_17 s_p0_finding s_p0_asked s_p0_tries s_p0_things s_p0_goals s_p0_level s_p0_barred s_p0_bars s_p0_choices s_p0_findings s_p0_hits s_p0_lineCount s_p0_lines s_p0_met s_p0_points s_p0_taken Q)))))))))
-- X7_ovoids
theorem iX7_ovoids_X7 : ∀ w ∈ wsX70, w ∈ wsX7_ovoids := by decide +kernel
set_option maxHeartbeats 4000000 in
set_option maxRecDepth 100000 in
theorem k_X7_ovoids_93 {E : vE} {T : Nat → ClassId} {o_p0 : Nat} {a_p0 : Nat → Nat} {s_p0_finding : Int32} {s_p0_asked : Int64} {s_p0_newPoints : Int32} {s_p0_newLines : Int32} {s_p0_faultAt : Int64} {s_p0_tries : Int32} {s_p0_things : Int32} {s_p0_goals : Int32} {s_p0_level : Int32} {s_p0_barred : Nat → Int64} {s_p0_bars : Nat → Int64} {s_p0_choices : Nat → Int64} {s_p0_findings : Nat → Int32} {s_p0_hits : Nat → Int64} {s_p0_lineCount : Nat → Int32} {s_p0_lines : Nat → Int64} {s_p0_met : Nat → Int64} {s_p0_points : Nat → Int32} {s_p0_taken : Nat → Int32} {t_0 : Int32} {Q : Int32 → (Int32) → (Int64) → (Int32) → (Int32) → (Int32) → (Int32) → (Nat → Int64) → (Nat → Int64) → (Nat → Int64) → (Nat → Int32) → (Nat → Int64) → (Nat → Int64) → (Nat → Int32) → Prop} (X : vX E cX7_ovoids 7 RX7 wsX7_ovoids (vT T) (vr 3 71)) (r : r_X7_ovoids E T o_p0 a_p0 s_p0_newPoints s_p0_newLines s_p0_faultAt s_p0_lineCount s_p0_lines s_p0_points Q) (h : w_X7_ovoids_93 t_0 s_p0_finding s_p0_asked s_p0_tries s_p0_things s_p0_goals s_p0_level s_p0_barred s_p0_bars s_p0_choices s_p0_findings s_p0_hits s_p0_lineCount s_p0_lines s_p0_met s_p0_points s_p0_taken Q) : V E 0 0 93 [] [.int t_0] (cl_X7_ovoids T o_p0 a_p0 s_p0_finding s_p0_asked s_p0_newPoints s_p0_newLines s_p0_faultAt s_p0_tries s_p0_things s_p0_goals s_p0_level s_p0_barred s_p0_bars s_p0_choices s_p0_findings s_p0_hits s_p0_lineCount s_p0_lines s_p0_met s_p0_points s_p0_taken) := by
  unfold w_X7_ovoids_93 at h
  exact r _ _ _ (s_p0_finding, s_p0_asked, s_p0_tries, s_p0_things, s_p0_goals, s_p0_level, s_p0_barred, s_p0_bars, s_p0_choices, s_p0_findings, s_p0_hits, s_p0_met, s_p0_taken) _ dX7_ovoids_93 h rfl
set_option maxHeartbeats 4000000 in
set_option maxRecDepth 100000 in
theorem k_X7_ovoids_53 {E : vE} {T : Nat → ClassId} {o_p0 : Nat} {a_p0 : Nat → Nat} {s_p0_finding : Int32} {s_p0_asked : Int64} {s_p0_newPoints : Int32} {s_p0_newLines : Int32} {s_p0_faultAt : Int64} {s_p0_things : Int32} {s_p0_goals : Int32} {s_p0_bars : Nat → Int64} {s_p0_choices : Nat → Int64} {s_p0_findings : Nat → Int32} {s_p0_hits : Nat → Int64} {s_p0_lineCount : Nat → Int32} {s_p0_lines : Nat → Int64} {s_p0_points : Nat → Int32} {x_2 : Int32} {Q : Int32 → (Int32) → (Int64) → (Int32) → (Int32) → (Int32) → (Int32) → (Nat → Int64) → (Nat → Int64) → (Nat → Int64) → (Nat → Int32) → (Nat → Int64) → (Nat → Int64) → (Nat → Int32) → Prop} (X : vX E cX7_ovoids 7 RX7 wsX7_ovoids (vT T) (vr 3 71)) (r : r_X7_ovoids E T o_p0 a_p0 s_p0_newPoints s_p0_newLines s_p0_faultAt s_p0_lineCount s_p0_lines s_p0_points Q) : ∀ (n_ : Nat) (x_4 : Int64) (x_6 : Int32) (s_p0_tries : Int32) (s_p0_level : Int32) (s_p0_barred : Nat → Int64) (s_p0_met : Nat → Int64) (s_p0_taken : Nat → Int32), w_X7_ovoids_53 x_2 s_p0_finding s_p0_asked s_p0_things s_p0_goals s_p0_bars s_p0_choices s_p0_findings s_p0_hits s_p0_lineCount s_p0_lines s_p0_points Q n_ x_4 x_6 s_p0_tries s_p0_level s_p0_barred s_p0_met s_p0_taken → V E 0 0 53 [(0, .ref o_p0), (2, .int x_2), (4, .long x_4), (6, .int x_6)] [] (cl_X7_ovoids T o_p0 a_p0 s_p0_finding s_p0_asked s_p0_newPoints s_p0_newLines s_p0_faultAt s_p0_tries s_p0_things s_p0_goals s_p0_level s_p0_barred s_p0_bars s_p0_choices s_p0_findings s_p0_hits s_p0_lineCount s_p0_lines s_p0_met s_p0_points s_p0_taken) := by
  intro n_
  induction n_ with
  | zero => intro x_4 x_6 s_p0_tries s_p0_level s_p0_barred s_p0_met s_p0_taken h; exact h.elim
  | succ n_ hK_53 =>
    intro x_4 x_6 s_p0_tries s_p0_level s_p0_barred s_p0_met s_p0_taken h
    replace h : w_X7_ovoids_53s x_2 s_p0_finding s_p0_asked s_p0_things s_p0_goals s_p0_bars s_p0_choices s_p0_findings s_p0_hits s_p0_lineCount s_p0_lines s_p0_points Q (w_X7_ovoids_53 x_2 s_p0_finding s_p0_asked s_p0_things s_p0_goals s_p0_bars s_p0_choices s_p0_findings s_p0_hits s_p0_lineCount s_p0_lines s_p0_points Q n_) x_4 x_6 s_p0_tries s_p0_level s_p0_barred s_p0_met s_p0_taken := h
    unfold w_X7_ovoids_53s at h
    refine v_iload X 3 dX7_ovoids_53 rfl ?_
    refine v_iconst X dX7_ovoids_55 (v := (1 : Int32)) (by decide) ?_
    refine v_icmp_ne X (tgt := 76) dX7_ovoids_56 (by decide) (fun c_56 => ?_) (fun c_56 => ?_)
    · replace h := h.1 c_56
      refine v_iload X 3 dX7_ovoids_76 rfl ?_
      refine v_if_ge X (tgt := 86) dX7_ovoids_78 (by decide) (fun c_78 => ?_) (fun c_78 => ?_)
      · replace h := h.1 c_78
        refine v_aload_n X 0 dX7_ovoids_86 rfl rfl ?_
        refine v_lload X 2 dX7_ovoids_87 rfl ?_
        refine v_iconst X dX7_ovoids_89 (v := (1 : Int32)) (by decide) ?_
        refine v_callVi X (As := [.long x_4, .int (1 : Int32)]) (rest := []) 2 0 (c_X7_ask (l := vl E) (D := vD E) (T := T) (o_p0 := o_p0) (a_p0 := a_p0) (s_p0_finding := s_p0_finding) (s_p0_asked := s_p0_asked) (s_p0_newPoints := s_p0_newPoints) (s_p0_newLines := s_p0_newLines) (s_p0_faultAt := s_p0_faultAt) (s_p0_tries := s_p0_tries) (s_p0_things := s_p0_things) (s_p0_goals := s_p0_goals) (s_p0_level := s_p0_level) (x_1 := x_4) (x_3 := (1 : Int32)) h) gX7_ovoids_X7_ask rfl rfl (by decide +kernel) ⟨Nat.zero_le _, Nat.zero_le _⟩ ⟨rfl, rfl, by decide, by decide⟩ (Nat.le_of_ble_eq_true rfl) rfl rfl (wr := [vJ T (a_p0 20) 47 s_p0_barred, vJ T (a_p0 16) 45 s_p0_bars, vJ T (a_p0 18) 45 s_p0_choices, vI T (a_p0 1) 6 s_p0_findings, vJ T (a_p0 17) 45 s_p0_hits, vI T (a_p0 4) 6 s_p0_lineCount, vJ T (a_p0 7) 270 s_p0_lines, vJ T (a_p0 21) 47 s_p0_met, vI T (a_p0 3) 6 s_p0_points, vI T (a_p0 19) 46 s_p0_taken]) [0] [1, 2, 3, 4, 5, 6, 7, 8, 9, 10] rfl rfl rfl rfl (by decide) rfl dX7_ovoids_90 (fun r_90 u h => ?_)
        obtain ⟨u_90_0, rfl⟩ : ∃ z, z = u := ⟨_, rfl⟩
        refine v_ws (ws' := (cl_X7_ovoids T o_p0 a_p0 s_p0_finding u_90_0 s_p0_newPoints s_p0_newLines s_p0_faultAt s_p0_tries s_p0_things s_p0_goals s_p0_level s_p0_barred s_p0_bars s_p0_choices s_p0_findings s_p0_hits s_p0_lineCount s_p0_lines s_p0_met s_p0_points s_p0_taken)) [10, 0, 1, 2, 3, 4, 5, 6, 7, 8, 9] rfl rfl ?_
        refine v_lv (lv' := []) [] rfl ?_
        exact k_X7_ovoids_93 X r h
      · replace h := h.2 c_78
        refine v_iload X 3 dX7_ovoids_81 rfl ?_
        refine v_goto X (tgt := 93) dX7_ovoids_83 (by decide) ?_
        refine v_lv (lv' := []) [] rfl ?_
        exact k_X7_ovoids_93 X r h
    · replace h := h.2 c_56
      refine v_lload X 2 dX7_ovoids_59 rfl ?_
      refine v_lconst X dX7_ovoids_61 (v := (1 : Int64)) (by decide) ?_
      refine v_ladd X dX7_ovoids_62 ?_
      refine v_lstore X (lv' := [(4, .long (x_4 + (1 : Int64))), (0, .ref o_p0), (2, .int x_2), (6, .int x_6)]) dX7_ovoids_63 (by decide) rfl ?_
      refine v_aload_n X 1 dX7_ovoids_65 rfl rfl ?_
      refine v_iconst X dX7_ovoids_66 (v := (0 : Int32)) (by decide) ?_
      refine v_iload_n X 2 dX7_ovoids_67 rfl rfl ?_
      refine v_callVi X (As := [.int (0 : Int32), .int x_2]) (rest := []) 2 0 (c_X7_next (l := vl E) (D := vD E) (T := T) (o_p0 := o_p0) (a_p0 := a_p0) (s_p0_finding := s_p0_finding) (s_p0_asked := s_p0_asked) (s_p0_newPoints := s_p0_newPoints) (s_p0_newLines := s_p0_newLines) (s_p0_faultAt := s_p0_faultAt) (s_p0_tries := s_p0_tries) (s_p0_things := s_p0_things) (s_p0_goals := s_p0_goals) (s_p0_level := s_p0_level) (s_p0_barred := s_p0_barred) (s_p0_bars := s_p0_bars) (s_p0_choices := s_p0_choices) (s_p0_hits := s_p0_hits) (s_p0_met := s_p0_met) (s_p0_taken := s_p0_taken) (x_1 := (0 : Int32)) (x_2 := x_2) h) gX7_ovoids_X7_next rfl rfl (by decide +kernel) ⟨Nat.zero_le _, Nat.zero_le _⟩ ⟨rfl, rfl, by decide, by decide⟩ (Nat.le_of_ble_eq_true rfl) rfl rfl (wr := [vI T (a_p0 1) 6 s_p0_findings, vI T (a_p0 4) 6 s_p0_lineCount, vJ T (a_p0 7) 270 s_p0_lines, vI T (a_p0 3) 6 s_p0_points]) [0, 1, 2, 3, 5, 8, 10] [4, 6, 7, 9] rfl rfl rfl rfl (by decide) rfl dX7_ovoids_68 (fun r_68 u h => ?_)
      obtain ⟨u_68_0, u_68_1, u_68_2, u_68_3, u_68_4⟩ := u
      dsimp only at h
      refine v_ws (ws' := (cl_X7_ovoids T o_p0 a_p0 s_p0_finding s_p0_asked s_p0_newPoints s_p0_newLines s_p0_faultAt u_68_0 s_p0_things s_p0_goals u_68_1 u_68_2 s_p0_bars s_p0_choices s_p0_findings s_p0_hits s_p0_lineCount s_p0_lines u_68_3 s_p0_points u_68_4)) [4, 5, 6, 7, 0, 8, 1, 2, 9, 3, 10] rfl rfl ?_
      refine v_istore X (lv' := [(6, .int r_68), (4, .long (x_4 + (1 : Int64))), (0, .ref o_p0), (2, .int x_2)]) dX7_ovoids_71 (by decide) rfl ?_
      refine v_goto X (tgt := 53) dX7_ovoids_73 (by decide) ?_
      refine v_lv (lv' := [(0, .ref o_p0), (2, .int x_2), (4, .long (x_4 + (1 : Int64))), (6, .int r_68)]) [2, 3, 1, 0] rfl ?_
      exact hK_53 _ _ _ _ _ _ _ h
set_option maxHeartbeats 4000000 in
set_option maxRecDepth 100000 in
theorem k_X7_ovoids_17 {E : vE} {T : Nat → ClassId} {o_p0 : Nat} {a_p0 : Nat → Nat} {s_p0_finding : Int32} {s_p0_asked : Int64} {s_p0_newPoints : Int32} {s_p0_newLines : Int32} {s_p0_faultAt : Int64} {s_p0_tries : Int32} {s_p0_things : Int32} {s_p0_goals : Int32} {s_p0_level : Int32} {s_p0_barred : Nat → Int64} {s_p0_bars : Nat → Int64} {s_p0_choices : Nat → Int64} {s_p0_findings : Nat → Int32} {s_p0_hits : Nat → Int64} {s_p0_lineCount : Nat → Int32} {s_p0_lines : Nat → Int64} {s_p0_met : Nat → Int64} {s_p0_points : Nat → Int32} {s_p0_taken : Nat → Int32} {Q : Int32 → (Int32) → (Int64) → (Int32) → (Int32) → (Int32) → (Int32) → (Nat → Int64) → (Nat → Int64) → (Nat → Int64) → (Nat → Int32) → (Nat → Int64) → (Nat → Int64) → (Nat → Int32) → Prop} (X : vX E cX7_ovoids 7 RX7 wsX7_ovoids (vT T) (vr 3 71)) (r : r_X7_ovoids E T o_p0 a_p0 s_p0_newPoints s_p0_newLines s_p0_faultAt s_p0_lineCount s_p0_lines s_p0_points Q) (h : w_X7_ovoids_17 s_p0_finding s_p0_asked s_p0_tries s_p0_things s_p0_goals s_p0_level s_p0_barred s_p0_bars s_p0_choices s_p0_findings s_p0_hits s_p0_lineCount s_p0_lines s_p0_met s_p0_points s_p0_taken Q) : V E 0 0 17 [] [] (cl_X7_ovoids T o_p0 a_p0 s_p0_finding s_p0_asked s_p0_newPoints s_p0_newLines s_p0_faultAt s_p0_tries s_p0_things s_p0_goals s_p0_level s_p0_barred s_p0_bars s_p0_choices s_p0_findings s_p0_hits s_p0_lineCount s_p0_lines s_p0_met s_p0_points s_p0_taken) := by
  unfold w_X7_ovoids_17 at h
  refine v_iconst X dX7_ovoids_17 (v := (-1 : Int32)) (by decide) ?_
  exact r _ _ _ (s_p0_finding, s_p0_asked, s_p0_tries, s_p0_things, s_p0_goals, s_p0_level, s_p0_barred, s_p0_bars, s_p0_choices, s_p0_findings, s_p0_hits, s_p0_met, s_p0_taken) _ dX7_ovoids_18 h rfl
set_option maxHeartbeats 4000000 in
set_option maxRecDepth 100000 in
theorem c_X7_ovoids {l : Launch} {D : va_G} {T : Nat → ClassId} {o_p0 : Nat} {a_p0 : Nat → Nat} {s_p0_finding : Int32} {s_p0_asked : Int64} {s_p0_newPoints : Int32} {s_p0_newLines : Int32} {s_p0_faultAt : Int64} {s_p0_tries : Int32} {s_p0_things : Int32} {s_p0_goals : Int32} {s_p0_level : Int32} {s_p0_barred : Nat → Int64} {s_p0_bars : Nat → Int64} {s_p0_choices : Nat → Int64} {s_p0_findings : Nat → Int32} {s_p0_hits : Nat → Int64} {s_p0_lineCount : Nat → Int32} {s_p0_lines : Nat → Int64} {s_p0_met : Nat → Int64} {s_p0_points : Nat → Int32} {s_p0_taken : Nat → Int32} {x_1 : Int32} {x_2 : Int32} {Q : Int32 → (Int32) → (Int64) → (Int32) → (Int32) → (Int32) → (Int32) → (Nat → Int64) → (Nat → Int64) → (Nat → Int64) → (Nat → Int32) → (Nat → Int64) → (Nat → Int64) → (Nat → Int32) → Prop} (h : w_X7_ovoids x_1 x_2 s_p0_finding s_p0_asked s_p0_tries s_p0_things s_p0_goals s_p0_level s_p0_barred s_p0_bars s_p0_choices s_p0_findings s_p0_hits s_p0_lineCount s_p0_lines s_p0_met s_p0_points s_p0_taken Q) : vCi l D (vT T) yX7_ovoids wsX7_ovoids (vr 3 71) [.ref o_p0, .int x_1, .int x_2] (cl_X7_ovoids T o_p0 a_p0 s_p0_finding s_p0_asked s_p0_newPoints s_p0_newLines s_p0_faultAt s_p0_tries s_p0_things s_p0_goals s_p0_level s_p0_barred s_p0_bars s_p0_choices s_p0_findings s_p0_hits s_p0_lineCount s_p0_lines s_p0_met s_p0_points s_p0_taken) (fun v (u : (Int32) × (Int64) × (Int32) × (Int32) × (Int32) × (Int32) × (Nat → Int64) × (Nat → Int64) × (Nat → Int64) × (Nat → Int32) × (Nat → Int64) × (Nat → Int64) × (Nat → Int32)) => Q v u.1 u.2.1 u.2.2.1 u.2.2.2.1 u.2.2.2.2.1 u.2.2.2.2.2.1 u.2.2.2.2.2.2.1 u.2.2.2.2.2.2.2.1 u.2.2.2.2.2.2.2.2.1 u.2.2.2.2.2.2.2.2.2.1 u.2.2.2.2.2.2.2.2.2.2.1 u.2.2.2.2.2.2.2.2.2.2.2.1 u.2.2.2.2.2.2.2.2.2.2.2.2) (fun (u : (Int32) × (Int64) × (Int32) × (Int32) × (Int32) × (Int32) × (Nat → Int64) × (Nat → Int64) × (Nat → Int64) × (Nat → Int32) × (Nat → Int64) × (Nat → Int64) × (Nat → Int32)) => (cl_X7_ovoids T o_p0 a_p0 u.1 u.2.1 s_p0_newPoints s_p0_newLines s_p0_faultAt u.2.2.1 u.2.2.2.1 u.2.2.2.2.1 u.2.2.2.2.2.1 u.2.2.2.2.2.2.1 u.2.2.2.2.2.2.2.1 u.2.2.2.2.2.2.2.2.1 u.2.2.2.2.2.2.2.2.2.1 u.2.2.2.2.2.2.2.2.2.2.1 s_p0_lineCount s_p0_lines u.2.2.2.2.2.2.2.2.2.2.2.1 s_p0_points u.2.2.2.2.2.2.2.2.2.2.2.2)) := by
  refine vC_i (cc := cX7_ovoids) (nL := 7) (by decide +kernel) rfl ⟨rfl, rfl⟩ (Nat.le_of_ble_eq_true rfl) rfl ?_
  intro E el eD X r
  unfold w_X7_ovoids at h
  refine v_iload_n X 1 dX7_ovoids_0 rfl rfl ?_
  refine v_callSi0 X (As := [.int x_1]) (rest := []) 1 (c_X7_isNumber (l := vl E) (D := vD E) (T := T) (x_0 := x_1) h) gX7_ovoids_X7_isNumber rfl rfl (by decide +kernel) ⟨Nat.zero_le _, Nat.zero_le _⟩ ⟨rfl, rfl, by decide, by decide⟩ (Nat.le_of_ble_eq_true rfl) rfl dX7_ovoids_1 (fun r_1 h => ?_)
  refine v_if_eq X (tgt := 17) dX7_ovoids_4 (by decide) (fun c_4 => ?_) (fun c_4 => ?_)
  · replace h := h.1 c_4
    refine v_lv (lv' := []) [] rfl ?_
    exact k_X7_ovoids_17 X r h
  · replace h := h.2 c_4
    refine v_iload_n X 2 dX7_ovoids_7 rfl rfl ?_
    refine v_iconst X dX7_ovoids_8 (v := (1 : Int32)) (by decide) ?_
    refine v_ldc X (v := (100000 : Int32)) (List.mem_of_getElem? (i := 1) rfl) dX7_ovoids_9 ?_
    refine v_callSi0 X (As := [.int x_2, .int (1 : Int32), .int (100000 : Int32)]) (rest := []) 3 (c_X7_in (l := vl E) (D := vD E) (T := T) (x_0 := x_2) (x_1 := (1 : Int32)) (x_2 := (100000 : Int32)) h) gX7_ovoids_X7_in rfl rfl (by decide +kernel) ⟨Nat.zero_le _, Nat.zero_le _⟩ ⟨rfl, rfl, by decide, by decide⟩ (Nat.le_of_ble_eq_true rfl) rfl dX7_ovoids_11 (fun r_11 h => ?_)
    refine v_if_ne X (tgt := 19) dX7_ovoids_14 (by decide) (fun c_14 => ?_) (fun c_14 => ?_)
    · replace h := h.1 c_14
      refine v_aload_n X 0 dX7_ovoids_19 rfl rfl ?_
      refine v_iload_n X 1 dX7_ovoids_20 rfl rfl ?_
      refine v_callVi X (As := [.int x_1]) (rest := []) 1 0 (c_X7_looked (l := vl E) (D := vD E) (T := T) (o_p0 := o_p0) (a_p0 := a_p0) (s_p0_finding := s_p0_finding) (s_p0_asked := s_p0_asked) (s_p0_newPoints := s_p0_newPoints) (s_p0_newLines := s_p0_newLines) (s_p0_faultAt := s_p0_faultAt) (s_p0_tries := s_p0_tries) (s_p0_things := s_p0_things) (s_p0_goals := s_p0_goals) (s_p0_level := s_p0_level) (s_p0_findings := s_p0_findings) (s_p0_points := s_p0_points) (x_1 := x_1) h) gX7_ovoids_X7_looked rfl rfl (by decide +kernel) ⟨Nat.zero_le _, Nat.zero_le _⟩ ⟨rfl, rfl, by decide, by decide⟩ (Nat.le_of_ble_eq_true rfl) rfl rfl (wr := [vJ T (a_p0 20) 47 s_p0_barred, vJ T (a_p0 16) 45 s_p0_bars, vJ T (a_p0 18) 45 s_p0_choices, vJ T (a_p0 17) 45 s_p0_hits, vI T (a_p0 4) 6 s_p0_lineCount, vJ T (a_p0 7) 270 s_p0_lines, vJ T (a_p0 21) 47 s_p0_met, vI T (a_p0 19) 46 s_p0_taken]) [0, 4, 9] [1, 2, 3, 5, 6, 7, 8, 10] rfl rfl rfl rfl (by decide) rfl dX7_ovoids_21 (fun r_21 u h => ?_)
      obtain ⟨u_21_0, u_21_1⟩ := u
      dsimp only at h
      refine v_ws (ws' := (cl_X7_ovoids T o_p0 a_p0 u_21_0 s_p0_asked s_p0_newPoints s_p0_newLines s_p0_faultAt s_p0_tries s_p0_things s_p0_goals s_p0_level s_p0_barred s_p0_bars s_p0_choices u_21_1 s_p0_hits s_p0_lineCount s_p0_lines s_p0_met s_p0_points s_p0_taken)) [8, 0, 1, 2, 9, 3, 4, 5, 6, 10, 7] rfl rfl ?_
      refine v_istore_n X (lv' := [(3, .int r_21), (0, .ref o_p0), (1, .int x_1), (2, .int x_2)]) dX7_ovoids_24 rfl (by decide) rfl ?_
      refine v_iload_n X 0 dX7_ovoids_25 rfl rfl ?_
      refine v_if_ge X (tgt := 31) dX7_ovoids_26 (by decide) (fun c_26 => ?_) (fun c_26 => ?_)
      · replace h := h.1 c_26
        refine v_aload_n X 1 dX7_ovoids_31 rfl rfl ?_
        refine v_iload_n X 2 dX7_ovoids_32 rfl rfl ?_
        refine v_iconst X dX7_ovoids_33 (v := (1 : Int32)) (by decide) ?_
        refine v_callVv X (As := [.int x_1, .int (1 : Int32)]) (rest := []) 2 0 (c_X7_setSeeking (l := vl E) (D := vD E) (T := T) (o_p0 := o_p0) (a_p0 := a_p0) (s_p0_finding := u_21_0) (s_p0_asked := s_p0_asked) (s_p0_newPoints := s_p0_newPoints) (s_p0_newLines := s_p0_newLines) (s_p0_faultAt := s_p0_faultAt) (s_p0_tries := s_p0_tries) (s_p0_things := s_p0_things) (s_p0_goals := s_p0_goals) (s_p0_level := s_p0_level) (s_p0_bars := s_p0_bars) (s_p0_choices := s_p0_choices) (s_p0_hits := s_p0_hits) (s_p0_lineCount := s_p0_lineCount) (s_p0_lines := s_p0_lines) (s_p0_points := s_p0_points) (x_1 := x_1) (x_2 := (1 : Int32)) h) gX7_ovoids_X7_setSeeking rfl rfl (by decide +kernel) ⟨Nat.zero_le _, Nat.zero_le _⟩ ⟨rfl, rfl, by decide, by decide⟩ (Nat.le_of_ble_eq_true rfl) rfl rfl (wr := [vJ T (a_p0 20) 47 s_p0_barred, vI T (a_p0 1) 6 u_21_1, vJ T (a_p0 21) 47 s_p0_met, vI T (a_p0 19) 46 s_p0_taken]) [0, 2, 3, 5, 6, 7, 9] [1, 4, 8, 10] rfl rfl rfl rfl (by decide) rfl dX7_ovoids_34 (fun u h => ?_)
        obtain ⟨u_34_0, u_34_1, u_34_2, u_34_3, u_34_4⟩ := u
        dsimp only at h
        refine v_ws (ws' := (cl_X7_ovoids T o_p0 a_p0 u_21_0 s_p0_asked s_p0_newPoints s_p0_newLines s_p0_faultAt s_p0_tries u_34_0 u_34_1 s_p0_level s_p0_barred u_34_2 u_34_3 u_21_1 u_34_4 s_p0_lineCount s_p0_lines s_p0_met s_p0_points s_p0_taken)) [4, 0, 5, 6, 1, 7, 8, 9, 2, 10, 3] rfl rfl ?_
        refine v_aload_n X 1 dX7_ovoids_37 rfl rfl ?_
        refine v_iconst X dX7_ovoids_38 (v := (0 : Int32)) (by decide) ?_
        refine v_put X (ws' := (cl_X7_ovoids T o_p0 a_p0 u_21_0 s_p0_asked s_p0_newPoints s_p0_newLines s_p0_faultAt (0 : Int32) u_34_0 u_34_1 s_p0_level s_p0_barred u_34_2 u_34_3 u_21_1 u_34_4 s_p0_lineCount s_p0_lines s_p0_met s_p0_points s_p0_taken)) 0 13 (F := TX7) (N := 33) iX7_ovoids_X7 rfl tyX7 tyX7_ok nmX7 rfl (by decide) (List.mem_of_getElem? (i := 2) rfl) rfl rfl rfl rfl rfl (Nat.le_of_ble_eq_true rfl) rfl dX7_ovoids_39 ?_
        refine v_lconst X dX7_ovoids_42 (v := (0 : Int64)) (by decide) ?_
        refine v_lstore X (lv' := [(4, .long (0 : Int64)), (3, .int r_21), (0, .ref o_p0), (1, .int x_1), (2, .int x_2)]) dX7_ovoids_43 (by decide) rfl ?_
        refine v_aload_n X 2 dX7_ovoids_45 rfl rfl ?_
        refine v_iconst X dX7_ovoids_46 (v := (1 : Int32)) (by decide) ?_
        refine v_iload_n X 4 dX7_ovoids_47 rfl rfl ?_
        refine v_callVi X (As := [.int (1 : Int32), .int x_2]) (rest := []) 2 0 (c_X7_next (l := vl E) (D := vD E) (T := T) (o_p0 := o_p0) (a_p0 := a_p0) (s_p0_finding := u_21_0) (s_p0_asked := s_p0_asked) (s_p0_newPoints := s_p0_newPoints) (s_p0_newLines := s_p0_newLines) (s_p0_faultAt := s_p0_faultAt) (s_p0_tries := (0 : Int32)) (s_p0_things := u_34_0) (s_p0_goals := u_34_1) (s_p0_level := s_p0_level) (s_p0_barred := s_p0_barred) (s_p0_bars := u_34_2) (s_p0_choices := u_34_3) (s_p0_hits := u_34_4) (s_p0_met := s_p0_met) (s_p0_taken := s_p0_taken) (x_1 := (1 : Int32)) (x_2 := x_2) h) gX7_ovoids_X7_next rfl rfl (by decide +kernel) ⟨Nat.zero_le _, Nat.zero_le _⟩ ⟨rfl, rfl, by decide, by decide⟩ (Nat.le_of_ble_eq_true rfl) rfl rfl (wr := [vI T (a_p0 1) 6 u_21_1, vI T (a_p0 4) 6 s_p0_lineCount, vJ T (a_p0 7) 270 s_p0_lines, vI T (a_p0 3) 6 s_p0_points]) [0, 1, 2, 3, 5, 8, 10] [4, 6, 7, 9] rfl rfl rfl rfl (by decide) rfl dX7_ovoids_48 (fun r_48 u h => ?_)
        obtain ⟨u_48_0, u_48_1, u_48_2, u_48_3, u_48_4⟩ := u
        dsimp only at h
        refine v_ws (ws' := (cl_X7_ovoids T o_p0 a_p0 u_21_0 s_p0_asked s_p0_newPoints s_p0_newLines s_p0_faultAt u_48_0 u_34_0 u_34_1 u_48_1 u_48_2 u_34_2 u_34_3 u_21_1 u_34_4 s_p0_lineCount s_p0_lines u_48_3 s_p0_points u_48_4)) [4, 5, 6, 7, 0, 8, 1, 2, 9, 3, 10] rfl rfl ?_
        refine v_istore X (lv' := [(6, .int r_48), (4, .long (0 : Int64)), (3, .int r_21), (0, .ref o_p0), (1, .int x_1), (2, .int x_2)]) dX7_ovoids_51 (by decide) rfl ?_
        refine v_lv (lv' := [(0, .ref o_p0), (2, .int x_2), (4, .long (0 : Int64)), (6, .int r_48)]) [3, 5, 1, 0] rfl ?_
        obtain ⟨n_, h⟩ := h
        exact k_X7_ovoids_53 X r n_ _ _ _ _ _ _ _ h
      · replace h := h.2 c_26
        refine v_iload_n X 0 dX7_ovoids_29 rfl rfl ?_
        exact r _ _ _ (u_21_0, s_p0_asked, s_p0_tries, s_p0_things, s_p0_goals, s_p0_level, s_p0_barred, s_p0_bars, s_p0_choices, u_21_1, s_p0_hits, s_p0_met, s_p0_taken) _ dX7_ovoids_30 h rfl
    · replace h := h.2 c_14
      refine v_lv (lv' := []) [] rfl ?_
      exact k_X7_ovoids_17 X r h