-- X7_dual
abbrev cl_X7_dual (T : Nat → ClassId) (o_p0 : Nat) (a_p0 : Nat → Nat) (s_p0_finding : Int32) (s_p0_asked : Int64) (s_p0_newPoints : Int32) (s_p0_newLines : Int32) (s_p0_faultAt : Int64) (s_p0_tries : Int32) (s_p0_things : Int32) (s_p0_goals : Int32) (s_p0_level : Int32) (s_p0_findings : Nat → Int32) (s_p0_kinds : Nat → Int32) (s_p0_lineCount : Nat → Int32) (s_p0_lines : Nat → Int64) (s_p0_marks : Nat → Int32) (s_p0_newRow : Nat → Int64) (s_p0_points : Nat → Int32) : va_W := [vO o_p0 4 [.int s_p0_finding, .ref (a_p0 1), .long s_p0_asked, .ref (a_p0 3), .ref (a_p0 4), .ref (a_p0 5), .ref (a_p0 6), .ref (a_p0 7), .int s_p0_newPoints, .int s_p0_newLines, .ref (a_p0 10), .ref (a_p0 11), .long s_p0_faultAt, .int s_p0_tries, .int s_p0_things, .int s_p0_goals, .ref (a_p0 16), .ref (a_p0 17), .ref (a_p0 18), .ref (a_p0 19), .ref (a_p0 20), .ref (a_p0 21), .int s_p0_level, .ref (a_p0 23), .ref (a_p0 24), .ref (a_p0 25), .ref (a_p0 26), .ref (a_p0 27), .ref (a_p0 28), .ref (a_p0 29), .ref (a_p0 30), .ref (a_p0 31), .ref (a_p0 32)], vI T (a_p0 1) 6 s_p0_findings, vI T (a_p0 5) 6 s_p0_kinds, vI T (a_p0 4) 6 s_p0_lineCount, vJ T (a_p0 7) 270 s_p0_lines, vI T (a_p0 6) 6 s_p0_marks, vJ T (a_p0 10) 120 s_p0_newRow, vI T (a_p0 3) 6 s_p0_points]
abbrev r_X7_dual (E : vE) (T : Nat → ClassId) (o_p0 : Nat) (a_p0 : Nat → Nat) (s_p0_asked : Int64) (s_p0_faultAt : Int64) (s_p0_tries : Int32) (s_p0_things : Int32) (s_p0_goals : Int32) (s_p0_level : Int32) (Q : Int32 → (Int32) → (Int32) → (Int32) → (Nat → Int32) → (Nat → Int32) → (Nat → Int32) → (Nat → Int64) → (Nat → Int32) → (Nat → Int64) → (Nat → Int32) → Prop) : Prop := vRi E cX7_dual (fun v (u : (Int32) × (Int32) × (Int32) × (Nat → Int32) × (Nat → Int32) × (Nat → Int32) × (Nat → Int64) × (Nat → Int32) × (Nat → Int64) × (Nat → Int32)) => Q v u.1 u.2.1 u.2.2.1 u.2.2.2.1 u.2.2.2.2.1 u.2.2.2.2.2.1 u.2.2.2.2.2.2.1 u.2.2.2.2.2.2.2.1 u.2.2.2.2.2.2.2.2.1 u.2.2.2.2.2.2.2.2.2) (fun (u : (Int32) × (Int32) × (Int32) × (Nat → Int32) × (Nat → Int32) × (Nat → Int32) × (Nat → Int64) × (Nat → Int32) × (Nat → Int64) × (Nat → Int32)) => (cl_X7_dual T o_p0 a_p0 u.1 s_p0_asked u.2.1 u.2.2.1 s_p0_faultAt s_p0_tries s_p0_things s_p0_goals s_p0_level u.2.2.2.1 u.2.2.2.2.1 u.2.2.2.2.2.1 u.2.2.2.2.2.2.1 u.2.2.2.2.2.2.2.1 u.2.2.2.2.2.2.2.2.1 u.2.2.2.2.2.2.2.2.2))
def w_X7_dual_120 (t_0 : Int32) (s_p0_finding : Int32) (s_p0_newPoints : Int32) (s_p0_newLines : Int32) (s_p0_findings : Nat → Int32) (s_p0_kinds : Nat → Int32) (s_p0_lineCount : Nat → Int32) (s_p0_lines : Nat → Int64) (s_p0_marks : Nat → Int32) (s_p0_newRow : Nat → Int64) (s_p0_points : Nat → Int32) (Q : Int32 → (Int32) → (Int32) → (Int32) → (Nat → Int32) → (Nat → Int32) → (Nat → Int32) → (Nat → Int64) → (Nat → Int32) → (Nat → Int64) → (Nat → Int32) → Prop) : Prop := (Q t_0 s_p0_finding s_p0_newPoints s_p0_newLines s_p0_findings s_p0_kinds s_p0_lineCount s_p0_lines s_p0_marks s_p0_newRow s_p0_points)
def w_X7_dual_95 (x_1 : Int32) (x_2 : Int32) (x_5 : Int32) (t_0 : Int32) (s_p0_finding : Int32) (s_p0_newPoints : Int32) (s_p0_newLines : Int32) (s_p0_findings : Nat → Int32) (s_p0_kinds : Nat → Int32) (s_p0_lineCount : Nat → Int32) (s_p0_lines : Nat → Int64) (s_p0_marks : Nat → Int32) (s_p0_newRow : Nat → Int64) (s_p0_points : Nat → Int32) (K_49 : (Int32) → (Int32) → (Int32) → (Nat → Int64) → Prop) (Q : Int32 → (Int32) → (Int32) → (Int32) → (Nat → Int32) → (Nat → Int32) → (Nat → Int32) → (Nat → Int64) → (Nat → Int32) → (Nat → Int64) → (Nat → Int32) → Prop) : Prop := (K_49 t_0 (x_5 + (1 : Int32)) s_p0_newLines s_p0_newRow)
def w_X7_dual_94 (x_1 : Int32) (x_2 : Int32) (x_5 : Int32) (s_p0_finding : Int32) (s_p0_newPoints : Int32) (s_p0_newLines : Int32) (s_p0_findings : Nat → Int32) (s_p0_kinds : Nat → Int32) (s_p0_lineCount : Nat → Int32) (s_p0_lines : Nat → Int64) (s_p0_marks : Nat → Int32) (s_p0_newRow : Nat → Int64) (s_p0_points : Nat → Int32) (K_49 : (Int32) → (Int32) → (Int32) → (Nat → Int64) → Prop) (Q : Int32 → (Int32) → (Int32) → (Int32) → (Nat → Int32) → (Nat → Int32) → (Nat → Int32) → (Nat → Int64) → (Nat → Int32) → (Nat → Int64) → (Nat → Int32) → Prop) : Prop := (w_X7_dual_95 x_1 x_2 x_5 (0 : Int32) s_p0_finding s_p0_newPoints s_p0_newLines s_p0_findings s_p0_kinds s_p0_lineCount s_p0_lines s_p0_marks s_p0_newRow s_p0_points K_49 Q)
def w_X7_dual_49s (x_1 : Int32) (x_2 : Int32) (s_p0_finding : Int32) (s_p0_newPoints : Int32) (s_p0_findings : Nat → Int32) (s_p0_kinds : Nat → Int32) (s_p0_lineCount : Nat → Int32) (s_p0_lines : Nat → Int64) (s_p0_marks : Nat → Int32) (s_p0_points : Nat → Int32) (Q : Int32 → (Int32) → (Int32) → (Int32) → (Nat → Int32) → (Nat → Int32) → (Nat → Int32) → (Nat → Int64) → (Nat → Int32) → (Nat → Int64) → (Nat → Int32) → Prop) (K_49 : (Int32) → (Int32) → (Int32) → (Nat → Int64) → Prop) (x_4 : Int32) (x_5 : Int32) (s_p0_newLines : Int32) (s_p0_newRow : Nat → Int64) : Prop := (vp_in x_1 6 ∧ (((s_p0_points (x_1).toNatClampNeg) ≤ x_5 → ((x_4 = 0 → (w_X7_dual_120 (-4 : Int32) s_p0_finding s_p0_newPoints s_p0_newLines s_p0_findings s_p0_kinds s_p0_lineCount s_p0_lines s_p0_marks s_p0_newRow s_p0_points Q)) ∧ (¬ x_4 = 0 → (w_X7_keep x_2 (3 : Int32) (0 : Int32) s_p0_newPoints s_p0_newLines s_p0_kinds s_p0_lineCount s_p0_lines s_p0_marks s_p0_newRow s_p0_points (fun (r_112 : Int32) (u_112_0 : Nat → Int32) (u_112_1 : Nat → Int32) (u_112_2 : Nat → Int64) (u_112_3 : Nat → Int32) (u_112_4 : Nat → Int32) => (w_X7_dual_120 r_112 s_p0_finding s_p0_newPoints s_p0_newLines s_p0_findings u_112_0 u_112_1 u_112_2 u_112_3 s_p0_newRow u_112_4 Q)))))) ∧ (¬ (s_p0_points (x_1).toNatClampNeg) ≤ x_5 → (w_X7_through x_1 x_5 s_p0_lineCount s_p0_lines (fun (r_65 : Int64) => (w_X7_add r_65 s_p0_newLines s_p0_newRow (fun (u_68_0 : Int32) (u_68_1 : Nat → Int64) => ((x_4 = 0 → (w_X7_dual_94 x_1 x_2 x_5 s_p0_finding s_p0_newPoints u_68_0 s_p0_findings s_p0_kinds s_p0_lineCount s_p0_lines s_p0_marks u_68_1 s_p0_points K_49 Q)) ∧ (¬ x_4 = 0 → (vp_in x_5 120 ∧ (w_X7_bits (u_68_1 (x_5).toNatClampNeg) (fun (r_83 : Int32) => ((r_83 ≤ (1 : Int32) → (w_X7_dual_94 x_1 x_2 x_5 s_p0_finding s_p0_newPoints u_68_0 s_p0_findings s_p0_kinds s_p0_lineCount s_p0_lines s_p0_marks u_68_1 s_p0_points K_49 Q)) ∧ (¬ r_83 ≤ (1 : Int32) → (w_X7_dual_95 x_1 x_2 x_5 (1 : Int32) s_p0_finding s_p0_newPoints u_68_0 s_p0_findings s_p0_kinds s_p0_lineCount s_p0_lines s_p0_marks u_68_1 s_p0_points K_49 Q)))))))))))))))
def w_X7_dual_49 (x_1 : Int32) (x_2 : Int32) (s_p0_finding : Int32) (s_p0_newPoints : Int32) (s_p0_findings : Nat → Int32) (s_p0_kinds : Nat → Int32) (s_p0_lineCount : Nat → Int32) (s_p0_lines : Nat → Int64) (s_p0_marks : Nat → Int32) (s_p0_points : Nat → Int32) (Q : Int32 → (Int32) → (Int32) → (Int32) → (Nat → Int32) → (Nat → Int32) → (Nat → Int32) → (Nat → Int64) → (Nat → Int32) → (Nat → Int64) → (Nat → Int32) → Prop) : Nat → (Int32) → (Int32) → (Int32) → (Nat → Int64) → Prop
  | 0 => fun _ _ _ _ => False
  | n_ + 1 => w_X7_dual_49s x_1 x_2 s_p0_finding s_p0_newPoints s_p0_findings s_p0_kinds s_p0_lineCount s_p0_lines s_p0_marks s_p0_points Q (w_X7_dual_49 x_1 x_2 s_p0_finding s_p0_newPoints s_p0_findings s_p0_kinds s_p0_lineCount s_p0_lines s_p0_marks s_p0_points Q n_)
def w_X7_dual_14 (s_p0_finding : Int32) (s_p0_newPoints : Int32) (s_p0_newLines : Int32) (s_p0_findings : Nat → Int32) (s_p0_kinds : Nat → Int32) (s_p0_lineCount : Nat → Int32) (s_p0_lines : Nat → Int64) (s_p0_marks : Nat → Int32) (s_p0_newRow : Nat → Int64) (s_p0_points : Nat → Int32) (Q : Int32 → (Int32) → (Int32) → (Int32) → (Nat → Int32) → (Nat → Int32) → (Nat → Int32) → (Nat → Int64) → (Nat → Int32) → (Nat → Int64) → (Nat → Int32) → Prop) : Prop := (Q (-1 : Int32) s_p0_finding s_p0_newPoints s_p0_newLines s_p0_findings s_p0_kinds s_p0_lineCount s_p0_lines s_p0_marks s_p0_newRow s_p0_points)
def w_X7_dual (x_1 : Int32) (x_2 : Int32) (s_p0_finding : Int32) (s_p0_newPoints : Int32) (s_p0_newLines : Int32) (s_p0_findings : Nat → Int32) (s_p0_kinds : Nat → Int32) (s_p0_lineCount : Nat → Int32) (s_p0_lines : Nat → Int64) (s_p0_marks : Nat → Int32) (s_p0_newRow : Nat → Int64) (s_p0_points : Nat → Int32) (Q : Int32 → (Int32) → (Int32) → (Int32) → (Nat → Int32) → (Nat → Int32) → (Nat → Int32) → (Nat → Int64) → (Nat → Int32) → (Nat → Int64) → (Nat → Int32) → Prop) : Prop := (w_X7_isNumber x_1 (fun (r_1 : Int32) => ((r_1 = 0 → (w_X7_dual_14 s_p0_finding s_p0_newPoints s_p0_newLines s_p0_findings s_p0_kinds s_p0_lineCount s_p0_lines s_p0_marks s_p0_newRow s_p0_points Q)) ∧ (¬ r_1 = 0 → (w_X7_isNumber x_2 (fun (r_8 : Int32) => ((¬ r_8 = 0 → (w_X7_looked x_1 s_p0_finding s_p0_findings s_p0_points (fun (r_18 : Int32) (u_18_0 : Int32) (u_18_1 : Nat → Int32) => ((0 ≤ r_18 → (vp_in x_1 6 ∧ (∃ n_, w_X7_dual_49 x_1 x_2 u_18_0 (s_p0_lineCount (x_1).toNatClampNeg) u_18_1 s_p0_kinds s_p0_lineCount s_p0_lines s_p0_marks s_p0_points Q n_ (1 : Int32) (0 : Int32) (0 : Int32) s_p0_newRow))) ∧ (¬ 0 ≤ r_18 → (Q r_18 u_18_0 s_p0_newPoints s_p0_newLines u_18_1 s_p0_kinds s_p0_lineCount s_p0_lines s_p0_marks s_p0_newRow s_p0_points)))))) ∧ (r_8 = 0 → (w_X7_dual_14 s_p0_finding s_p0_newPoints s_p0_newLines s_p0_findings s_p0_kinds s_p0_lineCount s_p0_lines s_p0_marks s_p0_newRow s_p0_points Q)))))))))
-- X7_dual
theorem iX7_dual_X7 : ∀ w ∈ wsX70, w ∈ wsX7_dual := by decide +kernel
set_option maxHeartbeats 4000000 in
set_option maxRecDepth 100000 in
theorem k_X7_dual_120 {E : vE} {T : Nat → ClassId} {o_p0 : Nat} {a_p0 : Nat → Nat} {s_p0_finding : Int32} {s_p0_asked : Int64} {s_p0_newPoints : Int32} {s_p0_newLines : Int32} {s_p0_faultAt : Int64} {s_p0_tries : Int32} {s_p0_things : Int32} {s_p0_goals : Int32} {s_p0_level : Int32} {s_p0_findings : Nat → Int32} {s_p0_kinds : Nat → Int32} {s_p0_lineCount : Nat → Int32} {s_p0_lines : Nat → Int64} {s_p0_marks : Nat → Int32} {s_p0_newRow : Nat → Int64} {s_p0_points : Nat → Int32} {t_0 : Int32} {Q : Int32 → (Int32) → (Int32) → (Int32) → (Nat → Int32) → (Nat → Int32) → (Nat → Int32) → (Nat → Int64) → (Nat → Int32) → (Nat → Int64) → (Nat → Int32) → Prop} (X : vX E cX7_dual 6 RX7 wsX7_dual (vT T) (vr 3 63)) (r : r_X7_dual E T o_p0 a_p0 s_p0_asked s_p0_faultAt s_p0_tries s_p0_things s_p0_goals s_p0_level Q) (h : w_X7_dual_120 t_0 s_p0_finding s_p0_newPoints s_p0_newLines s_p0_findings s_p0_kinds s_p0_lineCount s_p0_lines s_p0_marks s_p0_newRow s_p0_points Q) : V E 0 0 120 [] [.int t_0] (cl_X7_dual T o_p0 a_p0 s_p0_finding s_p0_asked s_p0_newPoints s_p0_newLines s_p0_faultAt s_p0_tries s_p0_things s_p0_goals s_p0_level s_p0_findings s_p0_kinds s_p0_lineCount s_p0_lines s_p0_marks s_p0_newRow s_p0_points) := by
  unfold w_X7_dual_120 at h
  exact r _ _ _ (s_p0_finding, s_p0_newPoints, s_p0_newLines, s_p0_findings, s_p0_kinds, s_p0_lineCount, s_p0_lines, s_p0_marks, s_p0_newRow, s_p0_points) _ dX7_dual_120 h rfl
set_option maxHeartbeats 4000000 in
set_option maxRecDepth 100000 in
theorem k_X7_dual_95 {E : vE} {T : Nat → ClassId} {o_p0 : Nat} {a_p0 : Nat → Nat} {s_p0_finding : Int32} {s_p0_asked : Int64} {s_p0_newPoints : Int32} {s_p0_newLines : Int32} {s_p0_faultAt : Int64} {s_p0_tries : Int32} {s_p0_things : Int32} {s_p0_goals : Int32} {s_p0_level : Int32} {s_p0_findings : Nat → Int32} {s_p0_kinds : Nat → Int32} {s_p0_lineCount : Nat → Int32} {s_p0_lines : Nat → Int64} {s_p0_marks : Nat → Int32} {s_p0_newRow : Nat → Int64} {s_p0_points : Nat → Int32} {x_1 : Int32} {x_2 : Int32} {x_5 : Int32} {t_0 : Int32} {K_49 : (Int32) → (Int32) → (Int32) → (Nat → Int64) → Prop} {Q : Int32 → (Int32) → (Int32) → (Int32) → (Nat → Int32) → (Nat → Int32) → (Nat → Int32) → (Nat → Int64) → (Nat → Int32) → (Nat → Int64) → (Nat → Int32) → Prop} (X : vX E cX7_dual 6 RX7 wsX7_dual (vT T) (vr 3 63)) (r : r_X7_dual E T o_p0 a_p0 s_p0_asked s_p0_faultAt s_p0_tries s_p0_things s_p0_goals s_p0_level Q) (hK_49 : ∀ (x_4' : Int32) (x_5' : Int32) (s_p0_newLines' : Int32) (s_p0_newRow' : Nat → Int64), K_49 x_4' x_5' s_p0_newLines' s_p0_newRow' → V E 0 0 49 [(0, .ref o_p0), (1, .int x_1), (2, .int x_2), (4, .int x_4'), (5, .int x_5')] [] (cl_X7_dual T o_p0 a_p0 s_p0_finding s_p0_asked s_p0_newPoints s_p0_newLines' s_p0_faultAt s_p0_tries s_p0_things s_p0_goals s_p0_level s_p0_findings s_p0_kinds s_p0_lineCount s_p0_lines s_p0_marks s_p0_newRow' s_p0_points)) (h : w_X7_dual_95 x_1 x_2 x_5 t_0 s_p0_finding s_p0_newPoints s_p0_newLines s_p0_findings s_p0_kinds s_p0_lineCount s_p0_lines s_p0_marks s_p0_newRow s_p0_points K_49 Q) : V E 0 0 95 [(0, .ref o_p0), (1, .int x_1), (2, .int x_2), (5, .int x_5)] [.int t_0] (cl_X7_dual T o_p0 a_p0 s_p0_finding s_p0_asked s_p0_newPoints s_p0_newLines s_p0_faultAt s_p0_tries s_p0_things s_p0_goals s_p0_level s_p0_findings s_p0_kinds s_p0_lineCount s_p0_lines s_p0_marks s_p0_newRow s_p0_points) := by
  unfold w_X7_dual_95 at h
  refine v_istore X (lv' := [(4, .int t_0), (0, .ref o_p0), (1, .int x_1), (2, .int x_2), (5, .int x_5)]) dX7_dual_95 (by decide) rfl ?_
  refine v_iinc X (v := (x_5 + (1 : Int32))) (lv' := [(5, .int (x_5 + (1 : Int32))), (4, .int t_0), (0, .ref o_p0), (1, .int x_1), (2, .int x_2)]) 4 dX7_dual_97 rfl rfl (by decide) rfl ?_
  refine v_goto X (tgt := 49) dX7_dual_100 (by decide) ?_
  refine v_lv (lv' := [(0, .ref o_p0), (1, .int x_1), (2, .int x_2), (4, .int t_0), (5, .int (x_5 + (1 : Int32)))]) [2, 3, 4, 1, 0] rfl ?_
  exact hK_49 _ _ _ _ h
set_option maxHeartbeats 4000000 in
set_option maxRecDepth 100000 in
theorem k_X7_dual_94 {E : vE} {T : Nat → ClassId} {o_p0 : Nat} {a_p0 : Nat → Nat} {s_p0_finding : Int32} {s_p0_asked : Int64} {s_p0_newPoints : Int32} {s_p0_newLines : Int32} {s_p0_faultAt : Int64} {s_p0_tries : Int32} {s_p0_things : Int32} {s_p0_goals : Int32} {s_p0_level : Int32} {s_p0_findings : Nat → Int32} {s_p0_kinds : Nat → Int32} {s_p0_lineCount : Nat → Int32} {s_p0_lines : Nat → Int64} {s_p0_marks : Nat → Int32} {s_p0_newRow : Nat → Int64} {s_p0_points : Nat → Int32} {x_1 : Int32} {x_2 : Int32} {x_5 : Int32} {K_49 : (Int32) → (Int32) → (Int32) → (Nat → Int64) → Prop} {Q : Int32 → (Int32) → (Int32) → (Int32) → (Nat → Int32) → (Nat → Int32) → (Nat → Int32) → (Nat → Int64) → (Nat → Int32) → (Nat → Int64) → (Nat → Int32) → Prop} (X : vX E cX7_dual 6 RX7 wsX7_dual (vT T) (vr 3 63)) (r : r_X7_dual E T o_p0 a_p0 s_p0_asked s_p0_faultAt s_p0_tries s_p0_things s_p0_goals s_p0_level Q) (hK_49 : ∀ (x_4' : Int32) (x_5' : Int32) (s_p0_newLines' : Int32) (s_p0_newRow' : Nat → Int64), K_49 x_4' x_5' s_p0_newLines' s_p0_newRow' → V E 0 0 49 [(0, .ref o_p0), (1, .int x_1), (2, .int x_2), (4, .int x_4'), (5, .int x_5')] [] (cl_X7_dual T o_p0 a_p0 s_p0_finding s_p0_asked s_p0_newPoints s_p0_newLines' s_p0_faultAt s_p0_tries s_p0_things s_p0_goals s_p0_level s_p0_findings s_p0_kinds s_p0_lineCount s_p0_lines s_p0_marks s_p0_newRow' s_p0_points)) (h : w_X7_dual_94 x_1 x_2 x_5 s_p0_finding s_p0_newPoints s_p0_newLines s_p0_findings s_p0_kinds s_p0_lineCount s_p0_lines s_p0_marks s_p0_newRow s_p0_points K_49 Q) : V E 0 0 94 [(0, .ref o_p0), (1, .int x_1), (2, .int x_2), (5, .int x_5)] [] (cl_X7_dual T o_p0 a_p0 s_p0_finding s_p0_asked s_p0_newPoints s_p0_newLines s_p0_faultAt s_p0_tries s_p0_things s_p0_goals s_p0_level s_p0_findings s_p0_kinds s_p0_lineCount s_p0_lines s_p0_marks s_p0_newRow s_p0_points) := by
  unfold w_X7_dual_94 at h
  refine v_iconst X dX7_dual_94 (v := (0 : Int32)) (by decide) ?_
  exact k_X7_dual_95 X r hK_49 h
set_option maxHeartbeats 4000000 in
set_option maxRecDepth 100000 in
theorem k_X7_dual_49 {E : vE} {T : Nat → ClassId} {o_p0 : Nat} {a_p0 : Nat → Nat} {s_p0_finding : Int32} {s_p0_asked : Int64} {s_p0_newPoints : Int32} {s_p0_faultAt : Int64} {s_p0_tries : Int32} {s_p0_things : Int32} {s_p0_goals : Int32} {s_p0_level : Int32} {s_p0_findings : Nat → Int32} {s_p0_kinds : Nat → Int32} {s_p0_lineCount : Nat → Int32} {s_p0_lines : Nat → Int64} {s_p0_marks : Nat → Int32} {s_p0_points : Nat → Int32} {x_1 : Int32} {x_2 : Int32} {Q : Int32 → (Int32) → (Int32) → (Int32) → (Nat → Int32) → (Nat → Int32) → (Nat → Int32) → (Nat → Int64) → (Nat → Int32) → (Nat → Int64) → (Nat → Int32) → Prop} (X : vX E cX7_dual 6 RX7 wsX7_dual (vT T) (vr 3 63)) (r : r_X7_dual E T o_p0 a_p0 s_p0_asked s_p0_faultAt s_p0_tries s_p0_things s_p0_goals s_p0_level Q) : ∀ (n_ : Nat) (x_4 : Int32) (x_5 : Int32) (s_p0_newLines : Int32) (s_p0_newRow : Nat → Int64), w_X7_dual_49 x_1 x_2 s_p0_finding s_p0_newPoints s_p0_findings s_p0_kinds s_p0_lineCount s_p0_lines s_p0_marks s_p0_points Q n_ x_4 x_5 s_p0_newLines s_p0_newRow → V E 0 0 49 [(0, .ref o_p0), (1, .int x_1), (2, .int x_2), (4, .int x_4), (5, .int x_5)] [] (cl_X7_dual T o_p0 a_p0 s_p0_finding s_p0_asked s_p0_newPoints s_p0_newLines s_p0_faultAt s_p0_tries s_p0_things s_p0_goals s_p0_level s_p0_findings s_p0_kinds s_p0_lineCount s_p0_lines s_p0_marks s_p0_newRow s_p0_points) := by
  intro n_
  induction n_ with
  | zero => intro x_4 x_5 s_p0_newLines s_p0_newRow h; exact h.elim
  | succ n_ hK_49 =>
    intro x_4 x_5 s_p0_newLines s_p0_newRow h
    replace h : w_X7_dual_49s x_1 x_2 s_p0_finding s_p0_newPoints s_p0_findings s_p0_kinds s_p0_lineCount s_p0_lines s_p0_marks s_p0_points Q (w_X7_dual_49 x_1 x_2 s_p0_finding s_p0_newPoints s_p0_findings s_p0_kinds s_p0_lineCount s_p0_lines s_p0_marks s_p0_points Q n_) x_4 x_5 s_p0_newLines s_p0_newRow := h
    unfold w_X7_dual_49s at h
    refine v_iload X 4 dX7_dual_49 rfl ?_
    refine v_aload_n X 0 dX7_dual_51 rfl rfl ?_
    refine v_get X 0 3 (F := TX7) (N := 33) iX7_dual_X7 rfl rfl (by decide) (List.mem_of_getElem? (i := 4) rfl) rfl rfl dX7_dual_52 ?_
    refine v_iload_n X 1 dX7_dual_55 rfl rfl ?_
    refine v_iald X 7 0 rfl rfl h.1 dX7_dual_56 ?_
    replace h := h.2
    refine v_icmp_ge X (tgt := 103) dX7_dual_57 (by decide) (fun c_57 => ?_) (fun c_57 => ?_)
    · replace h := h.1 c_57
      refine v_iload X 3 dX7_dual_103 rfl ?_
      refine v_if_eq X (tgt := 118) dX7_dual_105 (by decide) (fun c_105 => ?_) (fun c_105 => ?_)
      · replace h := h.1 c_105
        refine v_bipush X dX7_dual_118 (v := (-4 : Int32)) (by decide) ?_
        refine v_lv (lv' := []) [] rfl ?_
        exact k_X7_dual_120 X r h
      · replace h := h.2 c_105
        refine v_aload_n X 0 dX7_dual_108 rfl rfl ?_
        refine v_iload_n X 2 dX7_dual_109 rfl rfl ?_
        refine v_iconst X dX7_dual_110 (v := (3 : Int32)) (by decide) ?_
        refine v_iconst X dX7_dual_111 (v := (0 : Int32)) (by decide) ?_
        refine v_callVi X (As := [.int x_2, .int (3 : Int32), .int (0 : Int32)]) (rest := []) 3 0 (c_X7_keep (l := vl E) (D := vD E) (T := T) (o_p0 := o_p0) (a_p0 := a_p0) (s_p0_finding := s_p0_finding) (s_p0_asked := s_p0_asked) (s_p0_newPoints := s_p0_newPoints) (s_p0_newLines := s_p0_newLines) (s_p0_faultAt := s_p0_faultAt) (s_p0_tries := s_p0_tries) (s_p0_things := s_p0_things) (s_p0_goals := s_p0_goals) (s_p0_level := s_p0_level) (s_p0_kinds := s_p0_kinds) (s_p0_lineCount := s_p0_lineCount) (s_p0_lines := s_p0_lines) (s_p0_marks := s_p0_marks) (s_p0_newRow := s_p0_newRow) (s_p0_points := s_p0_points) (x_1 := x_2) (x_2 := (3 : Int32)) (x_3 := (0 : Int32)) h) gX7_dual_X7_keep rfl rfl (by decide +kernel) ⟨Nat.zero_le _, Nat.zero_le _⟩ ⟨rfl, rfl, by decide, by decide⟩ (Nat.le_of_ble_eq_true rfl) rfl rfl (wr := [vI T (a_p0 1) 6 s_p0_findings]) [0, 2, 3, 4, 5, 6, 7] [1] rfl rfl rfl rfl (by decide) rfl dX7_dual_112 (fun r_112 u h => ?_)
        obtain ⟨u_112_0, u_112_1, u_112_2, u_112_3, u_112_4⟩ := u
        dsimp only at h
        refine v_ws (ws' := (cl_X7_dual T o_p0 a_p0 s_p0_finding s_p0_asked s_p0_newPoints s_p0_newLines s_p0_faultAt s_p0_tries s_p0_things s_p0_goals s_p0_level s_p0_findings u_112_0 u_112_1 u_112_2 u_112_3 s_p0_newRow u_112_4)) [1, 0, 2, 3, 4, 5, 6, 7] rfl rfl ?_
        refine v_goto X (tgt := 120) dX7_dual_115 (by decide) ?_
        refine v_lv (lv' := []) [] rfl ?_
        exact k_X7_dual_120 X r h
    · replace h := h.2 c_57
      refine v_aload_n X 0 dX7_dual_60 rfl rfl ?_
      refine v_aload_n X 0 dX7_dual_61 rfl rfl ?_
      refine v_iload_n X 1 dX7_dual_62 rfl rfl ?_
      refine v_iload X 4 dX7_dual_63 rfl ?_
      refine v_callVl X (As := [.int x_1, .int x_5]) (rest := [.ref o_p0]) 2 0 (c_X7_through (l := vl E) (D := vD E) (T := T) (o_p0 := o_p0) (a_p0 := a_p0) (s_p0_finding := s_p0_finding) (s_p0_asked := s_p0_asked) (s_p0_newPoints := s_p0_newPoints) (s_p0_newLines := s_p0_newLines) (s_p0_faultAt := s_p0_faultAt) (s_p0_tries := s_p0_tries) (s_p0_things := s_p0_things) (s_p0_goals := s_p0_goals) (s_p0_level := s_p0_level) (s_p0_lineCount := s_p0_lineCount) (s_p0_lines := s_p0_lines) (x_1 := x_1) (x_2 := x_5) h) gX7_dual_X7_through rfl rfl (by decide +kernel) ⟨Nat.zero_le _, Nat.zero_le _⟩ ⟨rfl, rfl, by decide, by decide⟩ (Nat.le_of_ble_eq_true rfl) rfl rfl (wr := [vI T (a_p0 1) 6 s_p0_findings, vI T (a_p0 5) 6 s_p0_kinds, vI T (a_p0 6) 6 s_p0_marks, vJ T (a_p0 10) 120 s_p0_newRow, vI T (a_p0 3) 6 s_p0_points]) [0, 3, 4] [1, 2, 5, 6, 7] rfl rfl rfl rfl (by decide) rfl dX7_dual_65 (fun r_65 u h => ?_)
      refine v_ws (ws' := (cl_X7_dual T o_p0 a_p0 s_p0_finding s_p0_asked s_p0_newPoints s_p0_newLines s_p0_faultAt s_p0_tries s_p0_things s_p0_goals s_p0_level s_p0_findings s_p0_kinds s_p0_lineCount s_p0_lines s_p0_marks s_p0_newRow s_p0_points)) [5, 0, 1, 6, 7, 2, 3, 4] rfl rfl ?_
      refine v_callVv X (As := [.long r_65]) (rest := []) 1 0 (c_X7_add (l := vl E) (D := vD E) (T := T) (o_p0 := o_p0) (a_p0 := a_p0) (s_p0_finding := s_p0_finding) (s_p0_asked := s_p0_asked) (s_p0_newPoints := s_p0_newPoints) (s_p0_newLines := s_p0_newLines) (s_p0_faultAt := s_p0_faultAt) (s_p0_tries := s_p0_tries) (s_p0_things := s_p0_things) (s_p0_goals := s_p0_goals) (s_p0_level := s_p0_level) (s_p0_newRow := s_p0_newRow) (x_1 := r_65) h) gX7_dual_X7_add rfl rfl (by decide +kernel) ⟨Nat.zero_le _, Nat.zero_le _⟩ ⟨rfl, rfl, by decide, by decide⟩ (Nat.le_of_ble_eq_true rfl) rfl rfl (wr := [vI T (a_p0 1) 6 s_p0_findings, vI T (a_p0 5) 6 s_p0_kinds, vI T (a_p0 4) 6 s_p0_lineCount, vJ T (a_p0 7) 270 s_p0_lines, vI T (a_p0 6) 6 s_p0_marks, vI T (a_p0 3) 6 s_p0_points]) [0, 6] [1, 2, 3, 4, 5, 7] rfl rfl rfl rfl (by decide) rfl dX7_dual_68 (fun u h => ?_)
      obtain ⟨u_68_0, u_68_1⟩ := u
      dsimp only at h
      refine v_ws (ws' := (cl_X7_dual T o_p0 a_p0 s_p0_finding s_p0_asked s_p0_newPoints u_68_0 s_p0_faultAt s_p0_tries s_p0_things s_p0_goals s_p0_level s_p0_findings s_p0_kinds s_p0_lineCount s_p0_lines s_p0_marks u_68_1 s_p0_points)) [6, 0, 1, 2, 3, 4, 7, 5] rfl rfl ?_
      refine v_iload X 3 dX7_dual_71 rfl ?_
      refine v_if_eq X (tgt := 94) dX7_dual_73 (by decide) (fun c_73 => ?_) (fun c_73 => ?_)
      · replace h := h.1 c_73
        refine v_lv (lv' := [(0, .ref o_p0), (1, .int x_1), (2, .int x_2), (5, .int x_5)]) [0, 1, 2, 4] rfl ?_
        exact k_X7_dual_94 X r hK_49 h
      · replace h := h.2 c_73
        refine v_aload_n X 0 dX7_dual_76 rfl rfl ?_
        refine v_get X 0 10 (F := TX7) (N := 33) iX7_dual_X7 rfl rfl (by decide) (List.mem_of_getElem? (i := 5) rfl) rfl rfl dX7_dual_77 ?_
        refine v_iload X 4 dX7_dual_80 rfl ?_
        refine v_lald X 6 1 rfl rfl h.1 dX7_dual_82 ?_
        replace h := h.2
        refine v_callSi0 X (As := [.long (u_68_1 (x_5).toNatClampNeg)]) (rest := []) 1 (c_X7_bits (l := vl E) (D := vD E) (T := T) (x_0 := (u_68_1 (x_5).toNatClampNeg)) h) gX7_dual_X7_bits rfl rfl (by decide +kernel) ⟨Nat.zero_le _, Nat.zero_le _⟩ ⟨rfl, rfl, by decide, by decide⟩ (Nat.le_of_ble_eq_true rfl) rfl dX7_dual_83 (fun r_83 h => ?_)
        refine v_iconst X dX7_dual_86 (v := (1 : Int32)) (by decide) ?_
        refine v_icmp_le X (tgt := 94) dX7_dual_87 (by decide) (fun c_87 => ?_) (fun c_87 => ?_)
        · replace h := h.1 c_87
          refine v_lv (lv' := [(0, .ref o_p0), (1, .int x_1), (2, .int x_2), (5, .int x_5)]) [0, 1, 2, 4] rfl ?_
          exact k_X7_dual_94 X r hK_49 h
        · replace h := h.2 c_87
          refine v_iconst X dX7_dual_90 (v := (1 : Int32)) (by decide) ?_
          refine v_goto X (tgt := 95) dX7_dual_91 (by decide) ?_
          refine v_lv (lv' := [(0, .ref o_p0), (1, .int x_1), (2, .int x_2), (5, .int x_5)]) [0, 1, 2, 4] rfl ?_
          exact k_X7_dual_95 X r hK_49 h
set_option maxHeartbeats 4000000 in
set_option maxRecDepth 100000 in
theorem k_X7_dual_14 {E : vE} {T : Nat → ClassId} {o_p0 : Nat} {a_p0 : Nat → Nat} {s_p0_finding : Int32} {s_p0_asked : Int64} {s_p0_newPoints : Int32} {s_p0_newLines : Int32} {s_p0_faultAt : Int64} {s_p0_tries : Int32} {s_p0_things : Int32} {s_p0_goals : Int32} {s_p0_level : Int32} {s_p0_findings : Nat → Int32} {s_p0_kinds : Nat → Int32} {s_p0_lineCount : Nat → Int32} {s_p0_lines : Nat → Int64} {s_p0_marks : Nat → Int32} {s_p0_newRow : Nat → Int64} {s_p0_points : Nat → Int32} {Q : Int32 → (Int32) → (Int32) → (Int32) → (Nat → Int32) → (Nat → Int32) → (Nat → Int32) → (Nat → Int64) → (Nat → Int32) → (Nat → Int64) → (Nat → Int32) → Prop} (X : vX E cX7_dual 6 RX7 wsX7_dual (vT T) (vr 3 63)) (r : r_X7_dual E T o_p0 a_p0 s_p0_asked s_p0_faultAt s_p0_tries s_p0_things s_p0_goals s_p0_level Q) (h : w_X7_dual_14 s_p0_finding s_p0_newPoints s_p0_newLines s_p0_findings s_p0_kinds s_p0_lineCount s_p0_lines s_p0_marks s_p0_newRow s_p0_points Q) : V E 0 0 14 [] [] (cl_X7_dual T o_p0 a_p0 s_p0_finding s_p0_asked s_p0_newPoints s_p0_newLines s_p0_faultAt s_p0_tries s_p0_things s_p0_goals s_p0_level s_p0_findings s_p0_kinds s_p0_lineCount s_p0_lines s_p0_marks s_p0_newRow s_p0_points) := by
  unfold w_X7_dual_14 at h
  refine v_iconst X dX7_dual_14 (v := (-1 : Int32)) (by decide) ?_
  exact r _ _ _ (s_p0_finding, s_p0_newPoints, s_p0_newLines, s_p0_findings, s_p0_kinds, s_p0_lineCount, s_p0_lines, s_p0_marks, s_p0_newRow, s_p0_points) _ dX7_dual_15 h rfl
set_option maxHeartbeats 4000000 in
set_option maxRecDepth 100000 in
theorem c_X7_dual {l : Launch} {D : va_G} {T : Nat → ClassId} {o_p0 : Nat} {a_p0 : Nat → Nat} {s_p0_finding : Int32} {s_p0_asked : Int64} {s_p0_newPoints : Int32} {s_p0_newLines : Int32} {s_p0_faultAt : Int64} {s_p0_tries : Int32} {s_p0_things : Int32} {s_p0_goals : Int32} {s_p0_level : Int32} {s_p0_findings : Nat → Int32} {s_p0_kinds : Nat → Int32} {s_p0_lineCount : Nat → Int32} {s_p0_lines : Nat → Int64} {s_p0_marks : Nat → Int32} {s_p0_newRow : Nat → Int64} {s_p0_points : Nat → Int32} {x_1 : Int32} {x_2 : Int32} {Q : Int32 → (Int32) → (Int32) → (Int32) → (Nat → Int32) → (Nat → Int32) → (Nat → Int32) → (Nat → Int64) → (Nat → Int32) → (Nat → Int64) → (Nat → Int32) → Prop} (h : w_X7_dual x_1 x_2 s_p0_finding s_p0_newPoints s_p0_newLines s_p0_findings s_p0_kinds s_p0_lineCount s_p0_lines s_p0_marks s_p0_newRow s_p0_points Q) : vCi l D (vT T) yX7_dual wsX7_dual (vr 3 63) [.ref o_p0, .int x_1, .int x_2] (cl_X7_dual T o_p0 a_p0 s_p0_finding s_p0_asked s_p0_newPoints s_p0_newLines s_p0_faultAt s_p0_tries s_p0_things s_p0_goals s_p0_level s_p0_findings s_p0_kinds s_p0_lineCount s_p0_lines s_p0_marks s_p0_newRow s_p0_points) (fun v (u : (Int32) × (Int32) × (Int32) × (Nat → Int32) × (Nat → Int32) × (Nat → Int32) × (Nat → Int64) × (Nat → Int32) × (Nat → Int64) × (Nat → Int32)) => Q v u.1 u.2.1 u.2.2.1 u.2.2.2.1 u.2.2.2.2.1 u.2.2.2.2.2.1 u.2.2.2.2.2.2.1 u.2.2.2.2.2.2.2.1 u.2.2.2.2.2.2.2.2.1 u.2.2.2.2.2.2.2.2.2) (fun (u : (Int32) × (Int32) × (Int32) × (Nat → Int32) × (Nat → Int32) × (Nat → Int32) × (Nat → Int64) × (Nat → Int32) × (Nat → Int64) × (Nat → Int32)) => (cl_X7_dual T o_p0 a_p0 u.1 s_p0_asked u.2.1 u.2.2.1 s_p0_faultAt s_p0_tries s_p0_things s_p0_goals s_p0_level u.2.2.2.1 u.2.2.2.2.1 u.2.2.2.2.2.1 u.2.2.2.2.2.2.1 u.2.2.2.2.2.2.2.1 u.2.2.2.2.2.2.2.2.1 u.2.2.2.2.2.2.2.2.2)) := by
  refine vC_i (cc := cX7_dual) (nL := 6) (by decide +kernel) rfl ⟨rfl, rfl⟩ (Nat.le_of_ble_eq_true rfl) rfl ?_
  intro E el eD X r
  unfold w_X7_dual at h
  refine v_iload_n X 1 dX7_dual_0 rfl rfl ?_
  refine v_callSi0 X (As := [.int x_1]) (rest := []) 1 (c_X7_isNumber (l := vl E) (D := vD E) (T := T) (x_0 := x_1) h) gX7_dual_X7_isNumber rfl rfl (by decide +kernel) ⟨Nat.zero_le _, Nat.zero_le _⟩ ⟨rfl, rfl, by decide, by decide⟩ (Nat.le_of_ble_eq_true rfl) rfl dX7_dual_1 (fun r_1 h => ?_)
  refine v_if_eq X (tgt := 14) dX7_dual_4 (by decide) (fun c_4 => ?_) (fun c_4 => ?_)
  · replace h := h.1 c_4
    refine v_lv (lv' := []) [] rfl ?_
    exact k_X7_dual_14 X r h
  · replace h := h.2 c_4
    refine v_iload_n X 2 dX7_dual_7 rfl rfl ?_
    refine v_callSi0 X (As := [.int x_2]) (rest := []) 1 (c_X7_isNumber (l := vl E) (D := vD E) (T := T) (x_0 := x_2) h) gX7_dual_X7_isNumber rfl rfl (by decide +kernel) ⟨Nat.zero_le _, Nat.zero_le _⟩ ⟨rfl, rfl, by decide, by decide⟩ (Nat.le_of_ble_eq_true rfl) rfl dX7_dual_8 (fun r_8 h => ?_)
    refine v_if_ne X (tgt := 16) dX7_dual_11 (by decide) (fun c_11 => ?_) (fun c_11 => ?_)
    · replace h := h.1 c_11
      refine v_aload_n X 0 dX7_dual_16 rfl rfl ?_
      refine v_iload_n X 1 dX7_dual_17 rfl rfl ?_
      refine v_callVi X (As := [.int x_1]) (rest := []) 1 0 (c_X7_looked (l := vl E) (D := vD E) (T := T) (o_p0 := o_p0) (a_p0 := a_p0) (s_p0_finding := s_p0_finding) (s_p0_asked := s_p0_asked) (s_p0_newPoints := s_p0_newPoints) (s_p0_newLines := s_p0_newLines) (s_p0_faultAt := s_p0_faultAt) (s_p0_tries := s_p0_tries) (s_p0_things := s_p0_things) (s_p0_goals := s_p0_goals) (s_p0_level := s_p0_level) (s_p0_findings := s_p0_findings) (s_p0_points := s_p0_points) (x_1 := x_1) h) gX7_dual_X7_looked rfl rfl (by decide +kernel) ⟨Nat.zero_le _, Nat.zero_le _⟩ ⟨rfl, rfl, by decide, by decide⟩ (Nat.le_of_ble_eq_true rfl) rfl rfl (wr := [vI T (a_p0 5) 6 s_p0_kinds, vI T (a_p0 4) 6 s_p0_lineCount, vJ T (a_p0 7) 270 s_p0_lines, vI T (a_p0 6) 6 s_p0_marks, vJ T (a_p0 10) 120 s_p0_newRow]) [0, 1, 7] [2, 3, 4, 5, 6] rfl rfl rfl rfl (by decide) rfl dX7_dual_18 (fun r_18 u h => ?_)
      obtain ⟨u_18_0, u_18_1⟩ := u
      dsimp only at h
      refine v_ws (ws' := (cl_X7_dual T o_p0 a_p0 u_18_0 s_p0_asked s_p0_newPoints s_p0_newLines s_p0_faultAt s_p0_tries s_p0_things s_p0_goals s_p0_level u_18_1 s_p0_kinds s_p0_lineCount s_p0_lines s_p0_marks s_p0_newRow s_p0_points)) [5, 6, 0, 1, 2, 3, 4, 7] rfl rfl ?_
      refine v_istore_n X (lv' := [(3, .int r_18), (0, .ref o_p0), (1, .int x_1), (2, .int x_2)]) dX7_dual_21 rfl (by decide) rfl ?_
      refine v_iload_n X 0 dX7_dual_22 rfl rfl ?_
      refine v_if_ge X (tgt := 28) dX7_dual_23 (by decide) (fun c_23 => ?_) (fun c_23 => ?_)
      · replace h := h.1 c_23
        refine v_aload_n X 1 dX7_dual_28 rfl rfl ?_
        refine v_aload_n X 1 dX7_dual_29 rfl rfl ?_
        refine v_get X 0 4 (F := TX7) (N := 33) iX7_dual_X7 rfl rfl (by decide) (List.mem_of_getElem? (i := 1) rfl) rfl rfl dX7_dual_30 ?_
        refine v_iload_n X 2 dX7_dual_33 rfl rfl ?_
        refine v_iald X 3 0 rfl rfl h.1 dX7_dual_34 ?_
        replace h := h.2
        refine v_put X (ws' := (cl_X7_dual T o_p0 a_p0 u_18_0 s_p0_asked (s_p0_lineCount (x_1).toNatClampNeg) s_p0_newLines s_p0_faultAt s_p0_tries s_p0_things s_p0_goals s_p0_level u_18_1 s_p0_kinds s_p0_lineCount s_p0_lines s_p0_marks s_p0_newRow s_p0_points)) 0 8 (F := TX7) (N := 33) iX7_dual_X7 rfl tyX7 tyX7_ok nmX7 rfl (by decide) (List.mem_of_getElem? (i := 2) rfl) rfl rfl rfl rfl rfl (Nat.le_of_ble_eq_true rfl) rfl dX7_dual_35 ?_
        refine v_aload_n X 1 dX7_dual_38 rfl rfl ?_
        refine v_iconst X dX7_dual_39 (v := (0 : Int32)) (by decide) ?_
        refine v_put X (ws' := (cl_X7_dual T o_p0 a_p0 u_18_0 s_p0_asked (s_p0_lineCount (x_1).toNatClampNeg) (0 : Int32) s_p0_faultAt s_p0_tries s_p0_things s_p0_goals s_p0_level u_18_1 s_p0_kinds s_p0_lineCount s_p0_lines s_p0_marks s_p0_newRow s_p0_points)) 0 9 (F := TX7) (N := 33) iX7_dual_X7 rfl tyX7 tyX7_ok nmX7 rfl (by decide) (List.mem_of_getElem? (i := 3) rfl) rfl rfl rfl rfl rfl (Nat.le_of_ble_eq_true rfl) rfl dX7_dual_40 ?_
        refine v_iconst X dX7_dual_43 (v := (1 : Int32)) (by decide) ?_
        refine v_istore X (lv' := [(4, .int (1 : Int32)), (3, .int r_18), (0, .ref o_p0), (1, .int x_1), (2, .int x_2)]) dX7_dual_44 (by decide) rfl ?_
        refine v_iconst X dX7_dual_46 (v := (0 : Int32)) (by decide) ?_
        refine v_istore X (lv' := [(5, .int (0 : Int32)), (4, .int (1 : Int32)), (3, .int r_18), (0, .ref o_p0), (1, .int x_1), (2, .int x_2)]) dX7_dual_47 (by decide) rfl ?_
        refine v_lv (lv' := [(0, .ref o_p0), (1, .int x_1), (2, .int x_2), (4, .int (1 : Int32)), (5, .int (0 : Int32))]) [3, 4, 5, 1, 0] rfl ?_
        obtain ⟨n_, h⟩ := h
        exact k_X7_dual_49 X r n_ _ _ _ _ h
      · replace h := h.2 c_23
        refine v_iload_n X 0 dX7_dual_26 rfl rfl ?_
        exact r _ _ _ (u_18_0, s_p0_newPoints, s_p0_newLines, u_18_1, s_p0_kinds, s_p0_lineCount, s_p0_lines, s_p0_marks, s_p0_newRow, s_p0_points) _ dX7_dual_27 h rfl
    · replace h := h.2 c_11
      refine v_lv (lv' := []) [] rfl ?_
      exact k_X7_dual_14 X r h
-- X7_nearTo
abbrev cl_X7_nearTo (T : Nat → ClassId) (o_p0 : Nat) (a_p0 : Nat → Nat) (s_p0_finding : Int32) (s_p0_asked : Int64) (s_p0_newPoints : Int32) (s_p0_newLines : Int32) (s_p0_faultAt : Int64) (s_p0_tries : Int32) (s_p0_things : Int32) (s_p0_goals : Int32) (s_p0_level : Int32) (s_p0_lineCount : Nat → Int32) (s_p0_lines : Nat → Int64) : va_W := [vO o_p0 4 [.int s_p0_finding, .ref (a_p0 1), .long s_p0_asked, .ref (a_p0 3), .ref (a_p0 4), .ref (a_p0 5), .ref (a_p0 6), .ref (a_p0 7), .int s_p0_newPoints, .int s_p0_newLines, .ref (a_p0 10), .ref (a_p0 11), .long s_p0_faultAt, .int s_p0_tries, .int s_p0_things, .int s_p0_goals, .ref (a_p0 16), .ref (a_p0 17), .ref (a_p0 18), .ref (a_p0 19), .ref (a_p0 20), .ref (a_p0 21), .int s_p0_level, .ref (a_p0 23), .ref (a_p0 24), .ref (a_p0 25), .ref (a_p0 26), .ref (a_p0 27), .ref (a_p0 28), .ref (a_p0 29), .ref (a_p0 30), .ref (a_p0 31), .ref (a_p0 32)], vI T (a_p0 4) 6 s_p0_lineCount, vJ T (a_p0 7) 270 s_p0_lines]
abbrev r_X7_nearTo (E : vE) (T : Nat → ClassId) (o_p0 : Nat) (a_p0 : Nat → Nat) (s_p0_finding : Int32) (s_p0_asked : Int64) (s_p0_newPoints : Int32) (s_p0_newLines : Int32) (s_p0_faultAt : Int64) (s_p0_tries : Int32) (s_p0_things : Int32) (s_p0_goals : Int32) (s_p0_level : Int32) (s_p0_lineCount : Nat → Int32) (s_p0_lines : Nat → Int64) (Q : Int64 → Prop) : Prop := vRl E cX7_nearTo (fun v (u : Unit) => Q v) (fun (u : Unit) => (cl_X7_nearTo T o_p0 a_p0 s_p0_finding s_p0_asked s_p0_newPoints s_p0_newLines s_p0_faultAt s_p0_tries s_p0_things s_p0_goals s_p0_level s_p0_lineCount s_p0_lines))
def w_X7_nearTo_54 (x_1 : Int32) (x_2 : Int32) (x_5 : Int32) (t_0 : Int64) (t_1 : Int64) (s_p0_lineCount : Nat → Int32) (s_p0_lines : Nat → Int64) (K_7 : (Int64) → (Int32) → Prop) (Q : Int64 → Prop) : Prop := (K_7 (t_0 ||| t_1) (x_5 + (1 : Int32)))
def w_X7_nearTo_7s (x_1 : Int32) (x_2 : Int32) (s_p0_lineCount : Nat → Int32) (s_p0_lines : Nat → Int64) (Q : Int64 → Prop) (K_7 : (Int64) → (Int32) → Prop) (x_3 : Int64) (x_5 : Int32) : Prop := (vp_in x_1 6 ∧ (((s_p0_lineCount (x_1).toNatClampNeg) ≤ x_5 → (Q x_3)) ∧ (¬ (s_p0_lineCount (x_1).toNatClampNeg) ≤ x_5 → (vp_in (((45 : Int32) * x_1) + x_5) 270 ∧ (w_X7_has (s_p0_lines ((((45 : Int32) * x_1) + x_5)).toNatClampNeg) x_2 (fun (r_32 : Int32) => ((r_32 = 0 → (w_X7_nearTo_54 x_1 x_2 x_5 x_3 (0 : Int64) s_p0_lineCount s_p0_lines K_7 Q)) ∧ (¬ r_32 = 0 → (vp_in (((45 : Int32) * x_1) + x_5) 270 ∧ (w_X7_nearTo_54 x_1 x_2 x_5 x_3 (s_p0_lines ((((45 : Int32) * x_1) + x_5)).toNatClampNeg) s_p0_lineCount s_p0_lines K_7 Q))))))))))
def w_X7_nearTo_7 (x_1 : Int32) (x_2 : Int32) (s_p0_lineCount : Nat → Int32) (s_p0_lines : Nat → Int64) (Q : Int64 → Prop) : Nat → (Int64) → (Int32) → Prop
  | 0 => fun _ _ => False
  | n_ + 1 => w_X7_nearTo_7s x_1 x_2 s_p0_lineCount s_p0_lines Q (w_X7_nearTo_7 x_1 x_2 s_p0_lineCount s_p0_lines Q n_)
def w_X7_nearTo (x_1 : Int32) (x_2 : Int32) (s_p0_lineCount : Nat → Int32) (s_p0_lines : Nat → Int64) (Q : Int64 → Prop) : Prop := (∃ n_, w_X7_nearTo_7 x_1 x_2 s_p0_lineCount s_p0_lines Q n_ (vshl (1 : Int64) x_2) (0 : Int32))
-- X7_nearTo
theorem iX7_nearTo_X7 : ∀ w ∈ wsX70, w ∈ wsX7_nearTo := by decide +kernel
set_option maxHeartbeats 4000000 in
set_option maxRecDepth 100000 in
theorem k_X7_nearTo_54 {E : vE} {T : Nat → ClassId} {o_p0 : Nat} {a_p0 : Nat → Nat} {s_p0_finding : Int32} {s_p0_asked : Int64} {s_p0_newPoints : Int32} {s_p0_newLines : Int32} {s_p0_faultAt : Int64} {s_p0_tries : Int32} {s_p0_things : Int32} {s_p0_goals : Int32} {s_p0_level : Int32} {s_p0_lineCount : Nat → Int32} {s_p0_lines : Nat → Int64} {x_1 : Int32} {x_2 : Int32} {x_5 : Int32} {t_0 : Int64} {t_1 : Int64} {K_7 : (Int64) → (Int32) → Prop} {Q : Int64 → Prop} (X : vX E cX7_nearTo 6 RX7 wsX7_nearTo (vT T) (vr 1 22)) (r : r_X7_nearTo E T o_p0 a_p0 s_p0_finding s_p0_asked s_p0_newPoints s_p0_newLines s_p0_faultAt s_p0_tries s_p0_things s_p0_goals s_p0_level s_p0_lineCount s_p0_lines Q) (hK_7 : ∀ (x_3' : Int64) (x_5' : Int32), K_7 x_3' x_5' → V E 0 0 7 [(0, .ref o_p0), (1, .int x_1), (2, .int x_2), (3, .long x_3'), (5, .int x_5')] [] (cl_X7_nearTo T o_p0 a_p0 s_p0_finding s_p0_asked s_p0_newPoints s_p0_newLines s_p0_faultAt s_p0_tries s_p0_things s_p0_goals s_p0_level s_p0_lineCount s_p0_lines)) (h : w_X7_nearTo_54 x_1 x_2 x_5 t_0 t_1 s_p0_lineCount s_p0_lines K_7 Q) : V E 0 0 54 [(0, .ref o_p0), (1, .int x_1), (2, .int x_2), (5, .int x_5)] [.long t_1, .long t_0] (cl_X7_nearTo T o_p0 a_p0 s_p0_finding s_p0_asked s_p0_newPoints s_p0_newLines s_p0_faultAt s_p0_tries s_p0_things s_p0_goals s_p0_level s_p0_lineCount s_p0_lines) := by
  unfold w_X7_nearTo_54 at h
  refine v_lor X dX7_nearTo_54 ?_
  refine v_lstore_n X (lv' := [(3, .long (t_0 ||| t_1)), (0, .ref o_p0), (1, .int x_1), (2, .int x_2), (5, .int x_5)]) dX7_nearTo_55 rfl (by decide) rfl ?_
  refine v_iinc X (v := (x_5 + (1 : Int32))) (lv' := [(5, .int (x_5 + (1 : Int32))), (3, .long (t_0 ||| t_1)), (0, .ref o_p0), (1, .int x_1), (2, .int x_2)]) 4 dX7_nearTo_56 rfl rfl (by decide) rfl ?_
  refine v_goto X (tgt := 7) dX7_nearTo_59 (by decide) ?_
  refine v_lv (lv' := [(0, .ref o_p0), (1, .int x_1), (2, .int x_2), (3, .long (t_0 ||| t_1)), (5, .int (x_5 + (1 : Int32)))]) [2, 3, 4, 1, 0] rfl ?_
  exact hK_7 _ _ h
set_option maxHeartbeats 4000000 in
set_option maxRecDepth 100000 in
theorem k_X7_nearTo_7 {E : vE} {T : Nat → ClassId} {o_p0 : Nat} {a_p0 : Nat → Nat} {s_p0_finding : Int32} {s_p0_asked : Int64} {s_p0_newPoints : Int32} {s_p0_newLines : Int32} {s_p0_faultAt : Int64} {s_p0_tries : Int32} {s_p0_things : Int32} {s_p0_goals : Int32} {s_p0_level : Int32} {s_p0_lineCount : Nat → Int32} {s_p0_lines : Nat → Int64} {x_1 : Int32} {x_2 : Int32} {Q : Int64 → Prop} (X : vX E cX7_nearTo 6 RX7 wsX7_nearTo (vT T) (vr 1 22)) (r : r_X7_nearTo E T o_p0 a_p0 s_p0_finding s_p0_asked s_p0_newPoints s_p0_newLines s_p0_faultAt s_p0_tries s_p0_things s_p0_goals s_p0_level s_p0_lineCount s_p0_lines Q) : ∀ (n_ : Nat) (x_3 : Int64) (x_5 : Int32), w_X7_nearTo_7 x_1 x_2 s_p0_lineCount s_p0_lines Q n_ x_3 x_5 → V E 0 0 7 [(0, .ref o_p0), (1, .int x_1), (2, .int x_2), (3, .long x_3), (5, .int x_5)] [] (cl_X7_nearTo T o_p0 a_p0 s_p0_finding s_p0_asked s_p0_newPoints s_p0_newLines s_p0_faultAt s_p0_tries s_p0_things s_p0_goals s_p0_level s_p0_lineCount s_p0_lines) := by
  intro n_
  induction n_ with
  | zero => intro x_3 x_5 h; exact h.elim
  | succ n_ hK_7 =>
    intro x_3 x_5 h
    replace h : w_X7_nearTo_7s x_1 x_2 s_p0_lineCount s_p0_lines Q (w_X7_nearTo_7 x_1 x_2 s_p0_lineCount s_p0_lines Q n_) x_3 x_5 := h
    unfold w_X7_nearTo_7s at h
    refine v_iload X 4 dX7_nearTo_7 rfl ?_
    refine v_aload_n X 0 dX7_nearTo_9 rfl rfl ?_
    refine v_get X 0 4 (F := TX7) (N := 33) iX7_nearTo_X7 rfl rfl (by decide) (List.mem_of_getElem? (i := 1) rfl) rfl rfl dX7_nearTo_10 ?_
    refine v_iload_n X 1 dX7_nearTo_13 rfl rfl ?_
    refine v_iald X 1 0 rfl rfl h.1 dX7_nearTo_14 ?_
    replace h := h.2
    refine v_icmp_ge X (tgt := 62) dX7_nearTo_15 (by decide) (fun c_15 => ?_) (fun c_15 => ?_)
    · replace h := h.1 c_15
      refine v_lload_n X 3 dX7_nearTo_62 rfl rfl ?_
      exact r _ _ _ () _ dX7_nearTo_63 h rfl
    · replace h := h.2 c_15
      refine v_lload_n X 3 dX7_nearTo_18 rfl rfl ?_
      refine v_aload_n X 0 dX7_nearTo_19 rfl rfl ?_
      refine v_get X 0 7 (F := TX7) (N := 33) iX7_nearTo_X7 rfl rfl (by decide) (List.mem_of_getElem? (i := 2) rfl) rfl rfl dX7_nearTo_20 ?_
      refine v_bipush X dX7_nearTo_23 (v := (45 : Int32)) (by decide) ?_
      refine v_iload_n X 1 dX7_nearTo_25 rfl rfl ?_
      refine v_imul X dX7_nearTo_26 ?_
      refine v_iload X 4 dX7_nearTo_27 rfl ?_
      refine v_iadd X dX7_nearTo_29 ?_
      refine v_lald X 2 1 rfl rfl h.1 dX7_nearTo_30 ?_
      replace h := h.2
      refine v_iload_n X 2 dX7_nearTo_31 rfl rfl ?_
      refine v_callSi0 X (As := [.long (s_p0_lines ((((45 : Int32) * x_1) + x_5)).toNatClampNeg), .int x_2]) (rest := [.long x_3]) 2 (c_X7_has (l := vl E) (D := vD E) (T := T) (x_0 := (s_p0_lines ((((45 : Int32) * x_1) + x_5)).toNatClampNeg)) (x_2 := x_2) h) gX7_nearTo_X7_has rfl rfl (by decide +kernel) ⟨Nat.zero_le _, Nat.zero_le _⟩ ⟨rfl, rfl, by decide, by decide⟩ (Nat.le_of_ble_eq_true rfl) rfl dX7_nearTo_32 (fun r_32 h => ?_)
      refine v_if_eq X (tgt := 53) dX7_nearTo_35 (by decide) (fun c_35 => ?_) (fun c_35 => ?_)
      · replace h := h.1 c_35
        refine v_lconst X dX7_nearTo_53 (v := (0 : Int64)) (by decide) ?_
        refine v_lv (lv' := [(0, .ref o_p0), (1, .int x_1), (2, .int x_2), (5, .int x_5)]) [0, 1, 2, 4] rfl ?_
        exact k_X7_nearTo_54 X r hK_7 h
      · replace h := h.2 c_35
        refine v_aload_n X 0 dX7_nearTo_38 rfl rfl ?_
        refine v_get X 0 7 (F := TX7) (N := 33) iX7_nearTo_X7 rfl rfl (by decide) (List.mem_of_getElem? (i := 2) rfl) rfl rfl dX7_nearTo_39 ?_
        refine v_bipush X dX7_nearTo_42 (v := (45 : Int32)) (by decide) ?_
        refine v_iload_n X 1 dX7_nearTo_44 rfl rfl ?_
        refine v_imul X dX7_nearTo_45 ?_
        refine v_iload X 4 dX7_nearTo_46 rfl ?_
        refine v_iadd X dX7_nearTo_48 ?_
        refine v_lald X 2 1 rfl rfl h.1 dX7_nearTo_49 ?_
        replace h := h.2
        refine v_goto X (tgt := 54) dX7_nearTo_50 (by decide) ?_
        refine v_lv (lv' := [(0, .ref o_p0), (1, .int x_1), (2, .int x_2), (5, .int x_5)]) [0, 1, 2, 4] rfl ?_
        exact k_X7_nearTo_54 X r hK_7 h
set_option maxHeartbeats 4000000 in
set_option maxRecDepth 100000 in
theorem c_X7_nearTo {l : Launch} {D : va_G} {T : Nat → ClassId} {o_p0 : Nat} {a_p0 : Nat → Nat} {s_p0_finding : Int32} {s_p0_asked : Int64} {s_p0_newPoints : Int32} {s_p0_newLines : Int32} {s_p0_faultAt : Int64} {s_p0_tries : Int32} {s_p0_things : Int32} {s_p0_goals : Int32} {s_p0_level : Int32} {s_p0_lineCount : Nat → Int32} {s_p0_lines : Nat → Int64} {x_1 : Int32} {x_2 : Int32} {Q : Int64 → Prop} (h : w_X7_nearTo x_1 x_2 s_p0_lineCount s_p0_lines Q) : vCl l D (vT T) yX7_nearTo wsX7_nearTo (vr 1 22) [.ref o_p0, .int x_1, .int x_2] (cl_X7_nearTo T o_p0 a_p0 s_p0_finding s_p0_asked s_p0_newPoints s_p0_newLines s_p0_faultAt s_p0_tries s_p0_things s_p0_goals s_p0_level s_p0_lineCount s_p0_lines) (fun v (u : Unit) => Q v) (fun (u : Unit) => (cl_X7_nearTo T o_p0 a_p0 s_p0_finding s_p0_asked s_p0_newPoints s_p0_newLines s_p0_faultAt s_p0_tries s_p0_things s_p0_goals s_p0_level s_p0_lineCount s_p0_lines)) := by
  refine vC_l (cc := cX7_nearTo) (nL := 6) (by decide +kernel) rfl ⟨rfl, rfl⟩ (Nat.le_of_ble_eq_true rfl) rfl ?_
  intro E el eD X r
  unfold w_X7_nearTo at h
  refine v_lconst X dX7_nearTo_0 (v := (1 : Int64)) (by decide) ?_
  refine v_iload_n X 2 dX7_nearTo_1 rfl rfl ?_
  refine v_lshl X dX7_nearTo_2 ?_
  refine v_lstore_n X (lv' := [(3, .long (vshl (1 : Int64) x_2)), (0, .ref o_p0), (1, .int x_1), (2, .int x_2)]) dX7_nearTo_3 rfl (by decide) rfl ?_
  refine v_iconst X dX7_nearTo_4 (v := (0 : Int32)) (by decide) ?_
  refine v_istore X (lv' := [(5, .int (0 : Int32)), (3, .long (vshl (1 : Int64) x_2)), (0, .ref o_p0), (1, .int x_1), (2, .int x_2)]) dX7_nearTo_5 (by decide) rfl ?_
  refine v_lv (lv' := [(0, .ref o_p0), (1, .int x_1), (2, .int x_2), (3, .long (vshl (1 : Int64) x_2)), (5, .int (0 : Int32))]) [2, 3, 4, 1, 0] rfl ?_
  obtain ⟨n_, h⟩ := h
  exact k_X7_nearTo_7 X r n_ _ _ h
-- X7_perpOf
abbrev cl_X7_perpOf (T : Nat → ClassId) (o_p0 : Nat) (a_p0 : Nat → Nat) (s_p0_finding : Int32) (s_p0_asked : Int64) (s_p0_newPoints : Int32) (s_p0_newLines : Int32) (s_p0_faultAt : Int64) (s_p0_tries : Int32) (s_p0_things : Int32) (s_p0_goals : Int32) (s_p0_level : Int32) (s_p0_lineCount : Nat → Int32) (s_p0_lines : Nat → Int64) (s_p0_points : Nat → Int32) : va_W := [vO o_p0 4 [.int s_p0_finding, .ref (a_p0 1), .long s_p0_asked, .ref (a_p0 3), .ref (a_p0 4), .ref (a_p0 5), .ref (a_p0 6), .ref (a_p0 7), .int s_p0_newPoints, .int s_p0_newLines, .ref (a_p0 10), .ref (a_p0 11), .long s_p0_faultAt, .int s_p0_tries, .int s_p0_things, .int s_p0_goals, .ref (a_p0 16), .ref (a_p0 17), .ref (a_p0 18), .ref (a_p0 19), .ref (a_p0 20), .ref (a_p0 21), .int s_p0_level, .ref (a_p0 23), .ref (a_p0 24), .ref (a_p0 25), .ref (a_p0 26), .ref (a_p0 27), .ref (a_p0 28), .ref (a_p0 29), .ref (a_p0 30), .ref (a_p0 31), .ref (a_p0 32)], vI T (a_p0 4) 6 s_p0_lineCount, vJ T (a_p0 7) 270 s_p0_lines, vI T (a_p0 3) 6 s_p0_points]
abbrev r_X7_perpOf (E : vE) (T : Nat → ClassId) (o_p0 : Nat) (a_p0 : Nat → Nat) (s_p0_finding : Int32) (s_p0_asked : Int64) (s_p0_newPoints : Int32) (s_p0_newLines : Int32) (s_p0_faultAt : Int64) (s_p0_tries : Int32) (s_p0_things : Int32) (s_p0_goals : Int32) (s_p0_level : Int32) (s_p0_lineCount : Nat → Int32) (s_p0_lines : Nat → Int64) (s_p0_points : Nat → Int32) (Q : Int64 → Prop) : Prop := vRl E cX7_perpOf (fun v (u : Unit) => Q v) (fun (u : Unit) => (cl_X7_perpOf T o_p0 a_p0 s_p0_finding s_p0_asked s_p0_newPoints s_p0_newLines s_p0_faultAt s_p0_tries s_p0_things s_p0_goals s_p0_level s_p0_lineCount s_p0_lines s_p0_points))
def w_X7_perpOf_45 (x_1 : Int32) (x_2 : Int64) (x_6 : Int32) (t_0 : Int64) (t_1 : Int64) (s_p0_lineCount : Nat → Int32) (s_p0_lines : Nat → Int64) (s_p0_points : Nat → Int32) (K_10 : (Int64) → (Int32) → Prop) (Q : Int64 → Prop) : Prop := (K_10 (t_0 &&& t_1) (x_6 + (1 : Int32)))
def w_X7_perpOf_10s (x_1 : Int32) (x_2 : Int64) (s_p0_lineCount : Nat → Int32) (s_p0_lines : Nat → Int64) (s_p0_points : Nat → Int32) (Q : Int64 → Prop) (K_10 : (Int64) → (Int32) → Prop) (x_4 : Int64) (x_6 : Int32) : Prop := (vp_in x_1 6 ∧ (((s_p0_points (x_1).toNatClampNeg) ≤ x_6 → (Q x_4)) ∧ (¬ (s_p0_points (x_1).toNatClampNeg) ≤ x_6 → (w_X7_has x_2 x_6 (fun (r_26 : Int32) => ((r_26 = 0 → (w_X7_perpOf_45 x_1 x_2 x_6 x_4 (-1 : Int64) s_p0_lineCount s_p0_lines s_p0_points K_10 Q)) ∧ (¬ r_26 = 0 → (w_X7_nearTo x_1 x_6 s_p0_lineCount s_p0_lines (fun (r_36 : Int64) => (w_X7_perpOf_45 x_1 x_2 x_6 x_4 r_36 s_p0_lineCount s_p0_lines s_p0_points K_10 Q))))))))))
def w_X7_perpOf_10 (x_1 : Int32) (x_2 : Int64) (s_p0_lineCount : Nat → Int32) (s_p0_lines : Nat → Int64) (s_p0_points : Nat → Int32) (Q : Int64 → Prop) : Nat → (Int64) → (Int32) → Prop
  | 0 => fun _ _ => False
  | n_ + 1 => w_X7_perpOf_10s x_1 x_2 s_p0_lineCount s_p0_lines s_p0_points Q (w_X7_perpOf_10 x_1 x_2 s_p0_lineCount s_p0_lines s_p0_points Q n_)
def w_X7_perpOf (x_1 : Int32) (x_2 : Int64) (s_p0_lineCount : Nat → Int32) (s_p0_lines : Nat → Int64) (s_p0_points : Nat → Int32) (Q : Int64 → Prop) : Prop := (w_X7_allOf x_1 s_p0_points (fun (r_2 : Int64) => (∃ n_, w_X7_perpOf_10 x_1 x_2 s_p0_lineCount s_p0_lines s_p0_points Q n_ r_2 (0 : Int32))))
-- X7_perpOf
theorem iX7_perpOf_X7 : ∀ w ∈ wsX70, w ∈ wsX7_perpOf := by decide +kernel
set_option maxHeartbeats 4000000 in
set_option maxRecDepth 100000 in
theorem k_X7_perpOf_45 {E : vE} {T : Nat → ClassId} {o_p0 : Nat} {a_p0 : Nat → Nat} {s_p0_finding : Int32} {s_p0_asked : Int64} {s_p0_newPoints : Int32} {s_p0_newLines : Int32} {s_p0_faultAt : Int64} {s_p0_tries : Int32} {s_p0_things : Int32} {s_p0_goals : Int32} {s_p0_level : Int32} {s_p0_lineCount : Nat → Int32} {s_p0_lines : Nat → Int64} {s_p0_points : Nat → Int32} {x_1 : Int32} {x_2 : Int64} {x_6 : Int32} {t_0 : Int64} {t_1 : Int64} {K_10 : (Int64) → (Int32) → Prop} {Q : Int64 → Prop} (X : vX E cX7_perpOf 7 RX7 wsX7_perpOf (vT T) (vr 2 47)) (r : r_X7_perpOf E T o_p0 a_p0 s_p0_finding s_p0_asked s_p0_newPoints s_p0_newLines s_p0_faultAt s_p0_tries s_p0_things s_p0_goals s_p0_level s_p0_lineCount s_p0_lines s_p0_points Q) (hK_10 : ∀ (x_4' : Int64) (x_6' : Int32), K_10 x_4' x_6' → V E 0 0 10 [(0, .ref o_p0), (1, .int x_1), (2, .long x_2), (4, .long x_4'), (6, .int x_6')] [] (cl_X7_perpOf T o_p0 a_p0 s_p0_finding s_p0_asked s_p0_newPoints s_p0_newLines s_p0_faultAt s_p0_tries s_p0_things s_p0_goals s_p0_level s_p0_lineCount s_p0_lines s_p0_points)) (h : w_X7_perpOf_45 x_1 x_2 x_6 t_0 t_1 s_p0_lineCount s_p0_lines s_p0_points K_10 Q) : V E 0 0 45 [(0, .ref o_p0), (1, .int x_1), (2, .long x_2), (6, .int x_6)] [.long t_1, .long t_0] (cl_X7_perpOf T o_p0 a_p0 s_p0_finding s_p0_asked s_p0_newPoints s_p0_newLines s_p0_faultAt s_p0_tries s_p0_things s_p0_goals s_p0_level s_p0_lineCount s_p0_lines s_p0_points) := by
  unfold w_X7_perpOf_45 at h
  refine v_land X dX7_perpOf_45 ?_
  refine v_lstore X (lv' := [(4, .long (t_0 &&& t_1)), (0, .ref o_p0), (1, .int x_1), (2, .long x_2), (6, .int x_6)]) dX7_perpOf_46 (by decide) rfl ?_
  refine v_iinc X (v := (x_6 + (1 : Int32))) (lv' := [(6, .int (x_6 + (1 : Int32))), (4, .long (t_0 &&& t_1)), (0, .ref o_p0), (1, .int x_1), (2, .long x_2)]) 4 dX7_perpOf_48 rfl rfl (by decide) rfl ?_
  refine v_goto X (tgt := 10) dX7_perpOf_51 (by decide) ?_
  refine v_lv (lv' := [(0, .ref o_p0), (1, .int x_1), (2, .long x_2), (4, .long (t_0 &&& t_1)), (6, .int (x_6 + (1 : Int32)))]) [2, 3, 4, 1, 0] rfl ?_
  exact hK_10 _ _ h
set_option maxHeartbeats 4000000 in
set_option maxRecDepth 100000 in
theorem k_X7_perpOf_10 {E : vE} {T : Nat → ClassId} {o_p0 : Nat} {a_p0 : Nat → Nat} {s_p0_finding : Int32} {s_p0_asked : Int64} {s_p0_newPoints : Int32} {s_p0_newLines : Int32} {s_p0_faultAt : Int64} {s_p0_tries : Int32} {s_p0_things : Int32} {s_p0_goals : Int32} {s_p0_level : Int32} {s_p0_lineCount : Nat → Int32} {s_p0_lines : Nat → Int64} {s_p0_points : Nat → Int32} {x_1 : Int32} {x_2 : Int64} {Q : Int64 → Prop} (X : vX E cX7_perpOf 7 RX7 wsX7_perpOf (vT T) (vr 2 47)) (r : r_X7_perpOf E T o_p0 a_p0 s_p0_finding s_p0_asked s_p0_newPoints s_p0_newLines s_p0_faultAt s_p0_tries s_p0_things s_p0_goals s_p0_level s_p0_lineCount s_p0_lines s_p0_points Q) : ∀ (n_ : Nat) (x_4 : Int64) (x_6 : Int32), w_X7_perpOf_10 x_1 x_2 s_p0_lineCount s_p0_lines s_p0_points Q n_ x_4 x_6 → V E 0 0 10 [(0, .ref o_p0), (1, .int x_1), (2, .long x_2), (4, .long x_4), (6, .int x_6)] [] (cl_X7_perpOf T o_p0 a_p0 s_p0_finding s_p0_asked s_p0_newPoints s_p0_newLines s_p0_faultAt s_p0_tries s_p0_things s_p0_goals s_p0_level s_p0_lineCount s_p0_lines s_p0_points) := by
  intro n_
  induction n_ with
  | zero => intro x_4 x_6 h; exact h.elim
  | succ n_ hK_10 =>
    intro x_4 x_6 h
    replace h : w_X7_perpOf_10s x_1 x_2 s_p0_lineCount s_p0_lines s_p0_points Q (w_X7_perpOf_10 x_1 x_2 s_p0_lineCount s_p0_lines s_p0_points Q n_) x_4 x_6 := h
    unfold w_X7_perpOf_10s at h
    refine v_iload X 4 dX7_perpOf_10 rfl ?_
    refine v_aload_n X 0 dX7_perpOf_12 rfl rfl ?_
    refine v_get X 0 3 (F := TX7) (N := 33) iX7_perpOf_X7 rfl rfl (by decide) (List.mem_of_getElem? (i := 1) rfl) rfl rfl dX7_perpOf_13 ?_
    refine v_iload_n X 1 dX7_perpOf_16 rfl rfl ?_
    refine v_iald X 3 0 rfl rfl h.1 dX7_perpOf_17 ?_
    replace h := h.2
    refine v_icmp_ge X (tgt := 54) dX7_perpOf_18 (by decide) (fun c_18 => ?_) (fun c_18 => ?_)
    · replace h := h.1 c_18
      refine v_lload X 3 dX7_perpOf_54 rfl ?_
      exact r _ _ _ () _ dX7_perpOf_56 h rfl
    · replace h := h.2 c_18
      refine v_lload X 3 dX7_perpOf_21 rfl ?_
      refine v_lload_n X 2 dX7_perpOf_23 rfl rfl ?_
      refine v_iload X 4 dX7_perpOf_24 rfl ?_
      refine v_callSi0 X (As := [.long x_2, .int x_6]) (rest := [.long x_4]) 2 (c_X7_has (l := vl E) (D := vD E) (T := T) (x_0 := x_2) (x_2 := x_6) h) gX7_perpOf_X7_has rfl rfl (by decide +kernel) ⟨Nat.zero_le _, Nat.zero_le _⟩ ⟨rfl, rfl, by decide, by decide⟩ (Nat.le_of_ble_eq_true rfl) rfl dX7_perpOf_26 (fun r_26 h => ?_)
      refine v_if_eq X (tgt := 42) dX7_perpOf_29 (by decide) (fun c_29 => ?_) (fun c_29 => ?_)
      · replace h := h.1 c_29
        refine v_ldc2 X (v := (-1 : Int64)) (List.mem_of_getElem? (i := 2) rfl) dX7_perpOf_42 ?_
        refine v_lv (lv' := [(0, .ref o_p0), (1, .int x_1), (2, .long x_2), (6, .int x_6)]) [0, 1, 2, 4] rfl ?_
        exact k_X7_perpOf_45 X r hK_10 h
      · replace h := h.2 c_29
        refine v_aload_n X 0 dX7_perpOf_32 rfl rfl ?_
        refine v_iload_n X 1 dX7_perpOf_33 rfl rfl ?_
        refine v_iload X 4 dX7_perpOf_34 rfl ?_
        refine v_callVl X (As := [.int x_1, .int x_6]) (rest := [.long x_4]) 2 0 (c_X7_nearTo (l := vl E) (D := vD E) (T := T) (o_p0 := o_p0) (a_p0 := a_p0) (s_p0_finding := s_p0_finding) (s_p0_asked := s_p0_asked) (s_p0_newPoints := s_p0_newPoints) (s_p0_newLines := s_p0_newLines) (s_p0_faultAt := s_p0_faultAt) (s_p0_tries := s_p0_tries) (s_p0_things := s_p0_things) (s_p0_goals := s_p0_goals) (s_p0_level := s_p0_level) (s_p0_lineCount := s_p0_lineCount) (s_p0_lines := s_p0_lines) (x_1 := x_1) (x_2 := x_6) h) gX7_perpOf_X7_nearTo rfl rfl (by decide +kernel) ⟨Nat.zero_le _, Nat.zero_le _⟩ ⟨rfl, rfl, by decide, by decide⟩ (Nat.le_of_ble_eq_true rfl) rfl rfl (wr := [vI T (a_p0 3) 6 s_p0_points]) [0, 1, 2] [3] rfl rfl rfl rfl (by decide) rfl dX7_perpOf_36 (fun r_36 u h => ?_)
        refine v_ws (ws' := (cl_X7_perpOf T o_p0 a_p0 s_p0_finding s_p0_asked s_p0_newPoints s_p0_newLines s_p0_faultAt s_p0_tries s_p0_things s_p0_goals s_p0_level s_p0_lineCount s_p0_lines s_p0_points)) [1, 2, 3, 0] rfl rfl ?_
        refine v_goto X (tgt := 45) dX7_perpOf_39 (by decide) ?_
        refine v_lv (lv' := [(0, .ref o_p0), (1, .int x_1), (2, .long x_2), (6, .int x_6)]) [0, 1, 2, 4] rfl ?_
        exact k_X7_perpOf_45 X r hK_10 h
set_option maxHeartbeats 4000000 in
set_option maxRecDepth 100000 in
theorem c_X7_perpOf {l : Launch} {D : va_G} {T : Nat → ClassId} {o_p0 : Nat} {a_p0 : Nat → Nat} {s_p0_finding : Int32} {s_p0_asked : Int64} {s_p0_newPoints : Int32} {s_p0_newLines : Int32} {s_p0_faultAt : Int64} {s_p0_tries : Int32} {s_p0_things : Int32} {s_p0_goals : Int32} {s_p0_level : Int32} {s_p0_lineCount : Nat → Int32} {s_p0_lines : Nat → Int64} {s_p0_points : Nat → Int32} {x_1 : Int32} {x_2 : Int64} {Q : Int64 → Prop} (h : w_X7_perpOf x_1 x_2 s_p0_lineCount s_p0_lines s_p0_points Q) : vCl l D (vT T) yX7_perpOf wsX7_perpOf (vr 2 47) [.ref o_p0, .int x_1, .long x_2] (cl_X7_perpOf T o_p0 a_p0 s_p0_finding s_p0_asked s_p0_newPoints s_p0_newLines s_p0_faultAt s_p0_tries s_p0_things s_p0_goals s_p0_level s_p0_lineCount s_p0_lines s_p0_points) (fun v (u : Unit) => Q v) (fun (u : Unit) => (cl_X7_perpOf T o_p0 a_p0 s_p0_finding s_p0_asked s_p0_newPoints s_p0_newLines s_p0_faultAt s_p0_tries s_p0_things s_p0_goals s_p0_level s_p0_lineCount s_p0_lines s_p0_points)) := by
  refine vC_l (cc := cX7_perpOf) (nL := 7) (by decide +kernel) rfl ⟨rfl, rfl⟩ (Nat.le_of_ble_eq_true rfl) rfl ?_
  intro E el eD X r
  unfold w_X7_perpOf at h
  refine v_aload_n X 0 dX7_perpOf_0 rfl rfl ?_
  refine v_iload_n X 1 dX7_perpOf_1 rfl rfl ?_
  refine v_callVl X (As := [.int x_1]) (rest := []) 1 0 (c_X7_allOf (l := vl E) (D := vD E) (T := T) (o_p0 := o_p0) (a_p0 := a_p0) (s_p0_finding := s_p0_finding) (s_p0_asked := s_p0_asked) (s_p0_newPoints := s_p0_newPoints) (s_p0_newLines := s_p0_newLines) (s_p0_faultAt := s_p0_faultAt) (s_p0_tries := s_p0_tries) (s_p0_things := s_p0_things) (s_p0_goals := s_p0_goals) (s_p0_level := s_p0_level) (s_p0_points := s_p0_points) (x_1 := x_1) h) gX7_perpOf_X7_allOf rfl rfl (by decide +kernel) ⟨Nat.zero_le _, Nat.zero_le _⟩ ⟨rfl, rfl, by decide, by decide⟩ (Nat.le_of_ble_eq_true rfl) rfl rfl (wr := [vI T (a_p0 4) 6 s_p0_lineCount, vJ T (a_p0 7) 270 s_p0_lines]) [0, 3] [1, 2] rfl rfl rfl rfl (by decide) rfl dX7_perpOf_2 (fun r_2 u h => ?_)
  refine v_ws (ws' := (cl_X7_perpOf T o_p0 a_p0 s_p0_finding s_p0_asked s_p0_newPoints s_p0_newLines s_p0_faultAt s_p0_tries s_p0_things s_p0_goals s_p0_level s_p0_lineCount s_p0_lines s_p0_points)) [2, 0, 1, 3] rfl rfl ?_
  refine v_lstore X (lv' := [(4, .long r_2), (0, .ref o_p0), (1, .int x_1), (2, .long x_2)]) dX7_perpOf_5 (by decide) rfl ?_
  refine v_iconst X dX7_perpOf_7 (v := (0 : Int32)) (by decide) ?_
  refine v_istore X (lv' := [(6, .int (0 : Int32)), (4, .long r_2), (0, .ref o_p0), (1, .int x_1), (2, .long x_2)]) dX7_perpOf_8 (by decide) rfl ?_
  refine v_lv (lv' := [(0, .ref o_p0), (1, .int x_1), (2, .long x_2), (4, .long r_2), (6, .int (0 : Int32))]) [2, 3, 4, 1, 0] rfl ?_
  obtain ⟨n_, h⟩ := h
  exact k_X7_perpOf_10 X r n_ _ _ h
-- X7_spanOf
abbrev cl_X7_spanOf (T : Nat → ClassId) (o_p0 : Nat) (a_p0 : Nat → Nat) (s_p0_finding : Int32) (s_p0_asked : Int64) (s_p0_newPoints : Int32) (s_p0_newLines : Int32) (s_p0_faultAt : Int64) (s_p0_tries : Int32) (s_p0_things : Int32) (s_p0_goals : Int32) (s_p0_level : Int32) (s_p0_lineCount : Nat → Int32) (s_p0_lines : Nat → Int64) (s_p0_points : Nat → Int32) : va_W := [vO o_p0 4 [.int s_p0_finding, .ref (a_p0 1), .long s_p0_asked, .ref (a_p0 3), .ref (a_p0 4), .ref (a_p0 5), .ref (a_p0 6), .ref (a_p0 7), .int s_p0_newPoints, .int s_p0_newLines, .ref (a_p0 10), .ref (a_p0 11), .long s_p0_faultAt, .int s_p0_tries, .int s_p0_things, .int s_p0_goals, .ref (a_p0 16), .ref (a_p0 17), .ref (a_p0 18), .ref (a_p0 19), .ref (a_p0 20), .ref (a_p0 21), .int s_p0_level, .ref (a_p0 23), .ref (a_p0 24), .ref (a_p0 25), .ref (a_p0 26), .ref (a_p0 27), .ref (a_p0 28), .ref (a_p0 29), .ref (a_p0 30), .ref (a_p0 31), .ref (a_p0 32)], vI T (a_p0 4) 6 s_p0_lineCount, vJ T (a_p0 7) 270 s_p0_lines, vI T (a_p0 3) 6 s_p0_points]
abbrev r_X7_spanOf (E : vE) (T : Nat → ClassId) (o_p0 : Nat) (a_p0 : Nat → Nat) (s_p0_finding : Int32) (s_p0_asked : Int64) (s_p0_newPoints : Int32) (s_p0_newLines : Int32) (s_p0_faultAt : Int64) (s_p0_tries : Int32) (s_p0_things : Int32) (s_p0_goals : Int32) (s_p0_level : Int32) (s_p0_lineCount : Nat → Int32) (s_p0_lines : Nat → Int64) (s_p0_points : Nat → Int32) (Q : Int64 → Prop) : Prop := vRl E cX7_spanOf (fun v (u : Unit) => Q v) (fun (u : Unit) => (cl_X7_spanOf T o_p0 a_p0 s_p0_finding s_p0_asked s_p0_newPoints s_p0_newLines s_p0_faultAt s_p0_tries s_p0_things s_p0_goals s_p0_level s_p0_lineCount s_p0_lines s_p0_points))
def w_X7_spanOf (x_1 : Int32) (x_2 : Int32) (x_3 : Int32) (s_p0_lineCount : Nat → Int32) (s_p0_lines : Nat → Int64) (s_p0_points : Nat → Int32) (Q : Int64 → Prop) : Prop := (w_X7_perpOf x_1 ((vshl (1 : Int64) x_2) ||| (vshl (1 : Int64) x_3)) s_p0_lineCount s_p0_lines s_p0_points (fun (r_11 : Int64) => (w_X7_perpOf x_1 r_11 s_p0_lineCount s_p0_lines s_p0_points (fun (r_14 : Int64) => (Q r_14)))))
-- X7_spanOf
set_option maxHeartbeats 4000000 in
set_option maxRecDepth 100000 in
theorem c_X7_spanOf {l : Launch} {D : va_G} {T : Nat → ClassId} {o_p0 : Nat} {a_p0 : Nat → Nat} {s_p0_finding : Int32} {s_p0_asked : Int64} {s_p0_newPoints : Int32} {s_p0_newLines : Int32} {s_p0_faultAt : Int64} {s_p0_tries : Int32} {s_p0_things : Int32} {s_p0_goals : Int32} {s_p0_level : Int32} {s_p0_lineCount : Nat → Int32} {s_p0_lines : Nat → Int64} {s_p0_points : Nat → Int32} {x_1 : Int32} {x_2 : Int32} {x_3 : Int32} {Q : Int64 → Prop} (h : w_X7_spanOf x_1 x_2 x_3 s_p0_lineCount s_p0_lines s_p0_points Q) : vCl l D (vT T) yX7_spanOf wsX7_spanOf (vr 3 73) [.ref o_p0, .int x_1, .int x_2, .int x_3] (cl_X7_spanOf T o_p0 a_p0 s_p0_finding s_p0_asked s_p0_newPoints s_p0_newLines s_p0_faultAt s_p0_tries s_p0_things s_p0_goals s_p0_level s_p0_lineCount s_p0_lines s_p0_points) (fun v (u : Unit) => Q v) (fun (u : Unit) => (cl_X7_spanOf T o_p0 a_p0 s_p0_finding s_p0_asked s_p0_newPoints s_p0_newLines s_p0_faultAt s_p0_tries s_p0_things s_p0_goals s_p0_level s_p0_lineCount s_p0_lines s_p0_points)) := by
  refine vC_l (cc := cX7_spanOf) (nL := 4) (by decide +kernel) rfl ⟨rfl, rfl⟩ (Nat.le_of_ble_eq_true rfl) rfl ?_
  intro E el eD X r
  unfold w_X7_spanOf at h
  refine v_aload_n X 0 dX7_spanOf_0 rfl rfl ?_
  refine v_iload_n X 1 dX7_spanOf_1 rfl rfl ?_
  refine v_aload_n X 0 dX7_spanOf_2 rfl rfl ?_
  refine v_iload_n X 1 dX7_spanOf_3 rfl rfl ?_
  refine v_lconst X dX7_spanOf_4 (v := (1 : Int64)) (by decide) ?_
  refine v_iload_n X 2 dX7_spanOf_5 rfl rfl ?_
  refine v_lshl X dX7_spanOf_6 ?_
  refine v_lconst X dX7_spanOf_7 (v := (1 : Int64)) (by decide) ?_
  refine v_iload_n X 3 dX7_spanOf_8 rfl rfl ?_
  refine v_lshl X dX7_spanOf_9 ?_
  refine v_lor X dX7_spanOf_10 ?_
  refine v_callVl X (As := [.int x_1, .long ((vshl (1 : Int64) x_2) ||| (vshl (1 : Int64) x_3))]) (rest := [.int x_1, .ref o_p0]) 2 0 (c_X7_perpOf (l := vl E) (D := vD E) (T := T) (o_p0 := o_p0) (a_p0 := a_p0) (s_p0_finding := s_p0_finding) (s_p0_asked := s_p0_asked) (s_p0_newPoints := s_p0_newPoints) (s_p0_newLines := s_p0_newLines) (s_p0_faultAt := s_p0_faultAt) (s_p0_tries := s_p0_tries) (s_p0_things := s_p0_things) (s_p0_goals := s_p0_goals) (s_p0_level := s_p0_level) (s_p0_lineCount := s_p0_lineCount) (s_p0_lines := s_p0_lines) (s_p0_points := s_p0_points) (x_1 := x_1) (x_2 := ((vshl (1 : Int64) x_2) ||| (vshl (1 : Int64) x_3))) h) gX7_spanOf_X7_perpOf rfl rfl (by decide +kernel) ⟨Nat.zero_le _, Nat.zero_le _⟩ ⟨rfl, rfl, by decide, by decide⟩ (Nat.le_of_ble_eq_true rfl) rfl rfl (wr := []) [0, 1, 2, 3] [] rfl rfl rfl rfl (by decide) rfl dX7_spanOf_11 (fun r_11 u h => ?_)
  refine v_ws (ws' := (cl_X7_spanOf T o_p0 a_p0 s_p0_finding s_p0_asked s_p0_newPoints s_p0_newLines s_p0_faultAt s_p0_tries s_p0_things s_p0_goals s_p0_level s_p0_lineCount s_p0_lines s_p0_points)) [0, 1, 2, 3] rfl rfl ?_
  refine v_callVl X (As := [.int x_1, .long r_11]) (rest := []) 2 0 (c_X7_perpOf (l := vl E) (D := vD E) (T := T) (o_p0 := o_p0) (a_p0 := a_p0) (s_p0_finding := s_p0_finding) (s_p0_asked := s_p0_asked) (s_p0_newPoints := s_p0_newPoints) (s_p0_newLines := s_p0_newLines) (s_p0_faultAt := s_p0_faultAt) (s_p0_tries := s_p0_tries) (s_p0_things := s_p0_things) (s_p0_goals := s_p0_goals) (s_p0_level := s_p0_level) (s_p0_lineCount := s_p0_lineCount) (s_p0_lines := s_p0_lines) (s_p0_points := s_p0_points) (x_1 := x_1) (x_2 := r_11) h) gX7_spanOf_X7_perpOf rfl rfl (by decide +kernel) ⟨Nat.zero_le _, Nat.zero_le _⟩ ⟨rfl, rfl, by decide, by decide⟩ (Nat.le_of_ble_eq_true rfl) rfl rfl (wr := []) [0, 1, 2, 3] [] rfl rfl rfl rfl (by decide) rfl dX7_spanOf_14 (fun r_14 u h => ?_)
  refine v_ws (ws' := (cl_X7_spanOf T o_p0 a_p0 s_p0_finding s_p0_asked s_p0_newPoints s_p0_newLines s_p0_faultAt s_p0_tries s_p0_things s_p0_goals s_p0_level s_p0_lineCount s_p0_lines s_p0_points)) [0, 1, 2, 3] rfl rfl ?_
  exact r _ _ _ () _ dX7_spanOf_17 h rfl
-- X7_orderOf
abbrev cl_X7_orderOf (T : Nat → ClassId) (o_p0 : Nat) (a_p0 : Nat → Nat) (s_p0_finding : Int32) (s_p0_asked : Int64) (s_p0_newPoints : Int32) (s_p0_newLines : Int32) (s_p0_faultAt : Int64) (s_p0_tries : Int32) (s_p0_things : Int32) (s_p0_goals : Int32) (s_p0_level : Int32) (s_p0_lineCount : Nat → Int32) (s_p0_lines : Nat → Int64) (s_p0_points : Nat → Int32) : va_W := [vO o_p0 4 [.int s_p0_finding, .ref (a_p0 1), .long s_p0_asked, .ref (a_p0 3), .ref (a_p0 4), .ref (a_p0 5), .ref (a_p0 6), .ref (a_p0 7), .int s_p0_newPoints, .int s_p0_newLines, .ref (a_p0 10), .ref (a_p0 11), .long s_p0_faultAt, .int s_p0_tries, .int s_p0_things, .int s_p0_goals, .ref (a_p0 16), .ref (a_p0 17), .ref (a_p0 18), .ref (a_p0 19), .ref (a_p0 20), .ref (a_p0 21), .int s_p0_level, .ref (a_p0 23), .ref (a_p0 24), .ref (a_p0 25), .ref (a_p0 26), .ref (a_p0 27), .ref (a_p0 28), .ref (a_p0 29), .ref (a_p0 30), .ref (a_p0 31), .ref (a_p0 32)], vI T (a_p0 4) 6 s_p0_lineCount, vJ T (a_p0 7) 270 s_p0_lines, vI T (a_p0 3) 6 s_p0_points]
abbrev r_X7_orderOf (E : vE) (T : Nat → ClassId) (o_p0 : Nat) (a_p0 : Nat → Nat) (s_p0_finding : Int32) (s_p0_asked : Int64) (s_p0_newPoints : Int32) (s_p0_newLines : Int32) (s_p0_faultAt : Int64) (s_p0_tries : Int32) (s_p0_things : Int32) (s_p0_goals : Int32) (s_p0_level : Int32) (s_p0_lineCount : Nat → Int32) (s_p0_lines : Nat → Int64) (s_p0_points : Nat → Int32) (Q : Int32 → Prop) : Prop := vRi E cX7_orderOf (fun v (u : Unit) => Q v) (fun (u : Unit) => (cl_X7_orderOf T o_p0 a_p0 s_p0_finding s_p0_asked s_p0_newPoints s_p0_newLines s_p0_faultAt s_p0_tries s_p0_things s_p0_goals s_p0_level s_p0_lineCount s_p0_lines s_p0_points))
def w_X7_orderOf_107 (t_0 : Int32) (s_p0_lineCount : Nat → Int32) (s_p0_lines : Nat → Int64) (s_p0_points : Nat → Int32) (Q : Int32 → Prop) : Prop := (Q t_0)
def w_X7_orderOf_79 (x_1 : Int32) (x_2 : Int32) (x_3 : Int32) (x_5 : Int32) (x_6 : Int32) (s_p0_lineCount : Nat → Int32) (s_p0_lines : Nat → Int64) (s_p0_points : Nat → Int32) (K_27 : (Int32) → (Int32) → Prop) (Q : Int32 → Prop) : Prop := (K_27 x_6 (x_5 + (1 : Int32)))
def w_X7_orderOf_59 (x_1 : Int32) (x_2 : Int32) (x_3 : Int32) (x_4 : Int32) (x_5 : Int32) (t_0 : Int64) (s_p0_lineCount : Nat → Int32) (s_p0_lines : Nat → Int64) (s_p0_points : Nat → Int32) (K_27 : (Int32) → (Int32) → Prop) (Q : Int32 → Prop) : Prop := (w_X7_bits t_0 (fun (r_59 : Int32) => ((x_5 ≤ 0 → (w_X7_orderOf_79 x_1 x_2 x_3 x_5 r_59 s_p0_lineCount s_p0_lines s_p0_points K_27 Q)) ∧ (¬ x_5 ≤ 0 → ((r_59 = x_4 → (w_X7_orderOf_79 x_1 x_2 x_3 x_5 r_59 s_p0_lineCount s_p0_lines s_p0_points K_27 Q)) ∧ (¬ r_59 = x_4 → (Q (-9 : Int32))))))))
def w_X7_orderOf_27s (x_1 : Int32) (x_2 : Int32) (x_3 : Int32) (s_p0_lineCount : Nat → Int32) (s_p0_lines : Nat → Int64) (s_p0_points : Nat → Int32) (Q : Int32 → Prop) (K_27 : (Int32) → (Int32) → Prop) (x_4 : Int32) (x_5 : Int32) : Prop := ((x_3 ≤ x_5 → (vp_in x_1 6 ∧ ((¬ (s_p0_lineCount (x_1).toNatClampNeg) = 0 → (w_X7_orderOf_107 (x_4 - (1 : Int32)) s_p0_lineCount s_p0_lines s_p0_points Q)) ∧ ((s_p0_lineCount (x_1).toNatClampNeg) = 0 → (w_X7_orderOf_107 (-9 : Int32) s_p0_lineCount s_p0_lines s_p0_points Q))))) ∧ (¬ x_3 ≤ x_5 → ((x_2 = 0 → (w_X7_through x_1 x_5 s_p0_lineCount s_p0_lines (fun (r_56 : Int64) => (w_X7_orderOf_59 x_1 x_2 x_3 x_4 x_5 r_56 s_p0_lineCount s_p0_lines s_p0_points K_27 Q)))) ∧ (¬ x_2 = 0 → (vp_in (((45 : Int32) * x_1) + x_5) 270 ∧ (w_X7_orderOf_59 x_1 x_2 x_3 x_4 x_5 (s_p0_lines ((((45 : Int32) * x_1) + x_5)).toNatClampNeg) s_p0_lineCount s_p0_lines s_p0_points K_27 Q))))))
def w_X7_orderOf_27 (x_1 : Int32) (x_2 : Int32) (x_3 : Int32) (s_p0_lineCount : Nat → Int32) (s_p0_lines : Nat → Int64) (s_p0_points : Nat → Int32) (Q : Int32 → Prop) : Nat → (Int32) → (Int32) → Prop
  | 0 => fun _ _ => False
  | n_ + 1 => w_X7_orderOf_27s x_1 x_2 x_3 s_p0_lineCount s_p0_lines s_p0_points Q (w_X7_orderOf_27 x_1 x_2 x_3 s_p0_lineCount s_p0_lines s_p0_points Q n_)
def w_X7_orderOf_19 (x_1 : Int32) (x_2 : Int32) (t_0 : Int32) (s_p0_lineCount : Nat → Int32) (s_p0_lines : Nat → Int64) (s_p0_points : Nat → Int32) (Q : Int32 → Prop) : Prop := (∃ n_, w_X7_orderOf_27 x_1 x_2 t_0 s_p0_lineCount s_p0_lines s_p0_points Q n_ (-9 : Int32) (0 : Int32))
def w_X7_orderOf (x_1 : Int32) (x_2 : Int32) (s_p0_lineCount : Nat → Int32) (s_p0_lines : Nat → Int64) (s_p0_points : Nat → Int32) (Q : Int32 → Prop) : Prop := ((x_2 = 0 → (vp_in x_1 6 ∧ (w_X7_orderOf_19 x_1 x_2 (s_p0_points (x_1).toNatClampNeg) s_p0_lineCount s_p0_lines s_p0_points Q))) ∧ (¬ x_2 = 0 → (vp_in x_1 6 ∧ (w_X7_orderOf_19 x_1 x_2 (s_p0_lineCount (x_1).toNatClampNeg) s_p0_lineCount s_p0_lines s_p0_points Q))))
-- X7_orderOf
theorem iX7_orderOf_X7 : ∀ w ∈ wsX70, w ∈ wsX7_orderOf := by decide +kernel
set_option maxHeartbeats 4000000 in
set_option maxRecDepth 100000 in
theorem k_X7_orderOf_107 {E : vE} {T : Nat → ClassId} {o_p0 : Nat} {a_p0 : Nat → Nat} {s_p0_finding : Int32} {s_p0_asked : Int64} {s_p0_newPoints : Int32} {s_p0_newLines : Int32} {s_p0_faultAt : Int64} {s_p0_tries : Int32} {s_p0_things : Int32} {s_p0_goals : Int32} {s_p0_level : Int32} {s_p0_lineCount : Nat → Int32} {s_p0_lines : Nat → Int64} {s_p0_points : Nat → Int32} {t_0 : Int32} {Q : Int32 → Prop} (X : vX E cX7_orderOf 7 RX7 wsX7_orderOf (vT T) (vr 2 47)) (r : r_X7_orderOf E T o_p0 a_p0 s_p0_finding s_p0_asked s_p0_newPoints s_p0_newLines s_p0_faultAt s_p0_tries s_p0_things s_p0_goals s_p0_level s_p0_lineCount s_p0_lines s_p0_points Q) (h : w_X7_orderOf_107 t_0 s_p0_lineCount s_p0_lines s_p0_points Q) : V E 0 0 107 [] [.int t_0] (cl_X7_orderOf T o_p0 a_p0 s_p0_finding s_p0_asked s_p0_newPoints s_p0_newLines s_p0_faultAt s_p0_tries s_p0_things s_p0_goals s_p0_level s_p0_lineCount s_p0_lines s_p0_points) := by
  unfold w_X7_orderOf_107 at h
  exact r _ _ _ () _ dX7_orderOf_107 h rfl
set_option maxHeartbeats 4000000 in
set_option maxRecDepth 100000 in
theorem k_X7_orderOf_79 {E : vE} {T : Nat → ClassId} {o_p0 : Nat} {a_p0 : Nat → Nat} {s_p0_finding : Int32} {s_p0_asked : Int64} {s_p0_newPoints : Int32} {s_p0_newLines : Int32} {s_p0_faultAt : Int64} {s_p0_tries : Int32} {s_p0_things : Int32} {s_p0_goals : Int32} {s_p0_level : Int32} {s_p0_lineCount : Nat → Int32} {s_p0_lines : Nat → Int64} {s_p0_points : Nat → Int32} {x_1 : Int32} {x_2 : Int32} {x_3 : Int32} {x_5 : Int32} {x_6 : Int32} {K_27 : (Int32) → (Int32) → Prop} {Q : Int32 → Prop} (X : vX E cX7_orderOf 7 RX7 wsX7_orderOf (vT T) (vr 2 47)) (r : r_X7_orderOf E T o_p0 a_p0 s_p0_finding s_p0_asked s_p0_newPoints s_p0_newLines s_p0_faultAt s_p0_tries s_p0_things s_p0_goals s_p0_level s_p0_lineCount s_p0_lines s_p0_points Q) (hK_27 : ∀ (x_4' : Int32) (x_5' : Int32), K_27 x_4' x_5' → V E 0 0 27 [(0, .ref o_p0), (1, .int x_1), (2, .int x_2), (3, .int x_3), (4, .int x_4'), (5, .int x_5')] [] (cl_X7_orderOf T o_p0 a_p0 s_p0_finding s_p0_asked s_p0_newPoints s_p0_newLines s_p0_faultAt s_p0_tries s_p0_things s_p0_goals s_p0_level s_p0_lineCount s_p0_lines s_p0_points)) (h : w_X7_orderOf_79 x_1 x_2 x_3 x_5 x_6 s_p0_lineCount s_p0_lines s_p0_points K_27 Q) : V E 0 0 79 [(0, .ref o_p0), (1, .int x_1), (2, .int x_2), (3, .int x_3), (5, .int x_5), (6, .int x_6)] [] (cl_X7_orderOf T o_p0 a_p0 s_p0_finding s_p0_asked s_p0_newPoints s_p0_newLines s_p0_faultAt s_p0_tries s_p0_things s_p0_goals s_p0_level s_p0_lineCount s_p0_lines s_p0_points) := by
  unfold w_X7_orderOf_79 at h
  refine v_iload X 5 dX7_orderOf_79 rfl ?_
  refine v_istore X (lv' := [(4, .int x_6), (0, .ref o_p0), (1, .int x_1), (2, .int x_2), (3, .int x_3), (5, .int x_5), (6, .int x_6)]) dX7_orderOf_81 (by decide) rfl ?_
  refine v_iinc X (v := (x_5 + (1 : Int32))) (lv' := [(5, .int (x_5 + (1 : Int32))), (4, .int x_6), (0, .ref o_p0), (1, .int x_1), (2, .int x_2), (3, .int x_3), (6, .int x_6)]) 5 dX7_orderOf_83 rfl rfl (by decide) rfl ?_
  refine v_goto X (tgt := 27) dX7_orderOf_86 (by decide) ?_
  refine v_lv (lv' := [(0, .ref o_p0), (1, .int x_1), (2, .int x_2), (3, .int x_3), (4, .int x_6), (5, .int (x_5 + (1 : Int32)))]) [2, 3, 4, 5, 1, 0] rfl ?_
  exact hK_27 _ _ h
set_option maxHeartbeats 4000000 in
set_option maxRecDepth 100000 in
theorem k_X7_orderOf_59 {E : vE} {T : Nat → ClassId} {o_p0 : Nat} {a_p0 : Nat → Nat} {s_p0_finding : Int32} {s_p0_asked : Int64} {s_p0_newPoints : Int32} {s_p0_newLines : Int32} {s_p0_faultAt : Int64} {s_p0_tries : Int32} {s_p0_things : Int32} {s_p0_goals : Int32} {s_p0_level : Int32} {s_p0_lineCount : Nat → Int32} {s_p0_lines : Nat → Int64} {s_p0_points : Nat → Int32} {x_1 : Int32} {x_2 : Int32} {x_3 : Int32} {x_4 : Int32} {x_5 : Int32} {t_0 : Int64} {K_27 : (Int32) → (Int32) → Prop} {Q : Int32 → Prop} (X : vX E cX7_orderOf 7 RX7 wsX7_orderOf (vT T) (vr 2 47)) (r : r_X7_orderOf E T o_p0 a_p0 s_p0_finding s_p0_asked s_p0_newPoints s_p0_newLines s_p0_faultAt s_p0_tries s_p0_things s_p0_goals s_p0_level s_p0_lineCount s_p0_lines s_p0_points Q) (hK_27 : ∀ (x_4' : Int32) (x_5' : Int32), K_27 x_4' x_5' → V E 0 0 27 [(0, .ref o_p0), (1, .int x_1), (2, .int x_2), (3, .int x_3), (4, .int x_4'), (5, .int x_5')] [] (cl_X7_orderOf T o_p0 a_p0 s_p0_finding s_p0_asked s_p0_newPoints s_p0_newLines s_p0_faultAt s_p0_tries s_p0_things s_p0_goals s_p0_level s_p0_lineCount s_p0_lines s_p0_points)) (h : w_X7_orderOf_59 x_1 x_2 x_3 x_4 x_5 t_0 s_p0_lineCount s_p0_lines s_p0_points K_27 Q) : V E 0 0 59 [(0, .ref o_p0), (1, .int x_1), (2, .int x_2), (3, .int x_3), (4, .int x_4), (5, .int x_5)] [.long t_0] (cl_X7_orderOf T o_p0 a_p0 s_p0_finding s_p0_asked s_p0_newPoints s_p0_newLines s_p0_faultAt s_p0_tries s_p0_things s_p0_goals s_p0_level s_p0_lineCount s_p0_lines s_p0_points) := by
  unfold w_X7_orderOf_59 at h
  refine v_callSi0 X (As := [.long t_0]) (rest := []) 1 (c_X7_bits (l := vl E) (D := vD E) (T := T) (x_0 := t_0) h) gX7_orderOf_X7_bits rfl rfl (by decide +kernel) ⟨Nat.zero_le _, Nat.zero_le _⟩ ⟨rfl, rfl, by decide, by decide⟩ (Nat.le_of_ble_eq_true rfl) rfl dX7_orderOf_59 (fun r_59 h => ?_)
  refine v_istore X (lv' := [(6, .int r_59), (0, .ref o_p0), (1, .int x_1), (2, .int x_2), (3, .int x_3), (4, .int x_4), (5, .int x_5)]) dX7_orderOf_62 (by decide) rfl ?_
  refine v_iload X 6 dX7_orderOf_64 rfl ?_
  refine v_if_le X (tgt := 79) dX7_orderOf_66 (by decide) (fun c_66 => ?_) (fun c_66 => ?_)
  · replace h := h.1 c_66
    refine v_lv (lv' := [(0, .ref o_p0), (1, .int x_1), (2, .int x_2), (3, .int x_3), (5, .int x_5), (6, .int r_59)]) [1, 2, 3, 4, 6, 0] rfl ?_
    exact k_X7_orderOf_79 X r hK_27 h
  · replace h := h.2 c_66
    refine v_iload X 0 dX7_orderOf_69 rfl ?_
    refine v_iload X 5 dX7_orderOf_71 rfl ?_
    refine v_icmp_eq X (tgt := 79) dX7_orderOf_73 (by decide) (fun c_73 => ?_) (fun c_73 => ?_)
    · replace h := h.1 c_73
      refine v_lv (lv' := [(0, .ref o_p0), (1, .int x_1), (2, .int x_2), (3, .int x_3), (5, .int x_5), (6, .int r_59)]) [1, 2, 3, 4, 6, 0] rfl ?_
      exact k_X7_orderOf_79 X r hK_27 h
    · replace h := h.2 c_73
      refine v_bipush X dX7_orderOf_76 (v := (-9 : Int32)) (by decide) ?_
      exact r _ _ _ () _ dX7_orderOf_78 h rfl
set_option maxHeartbeats 4000000 in
set_option maxRecDepth 100000 in
theorem k_X7_orderOf_27 {E : vE} {T : Nat → ClassId} {o_p0 : Nat} {a_p0 : Nat → Nat} {s_p0_finding : Int32} {s_p0_asked : Int64} {s_p0_newPoints : Int32} {s_p0_newLines : Int32} {s_p0_faultAt : Int64} {s_p0_tries : Int32} {s_p0_things : Int32} {s_p0_goals : Int32} {s_p0_level : Int32} {s_p0_lineCount : Nat → Int32} {s_p0_lines : Nat → Int64} {s_p0_points : Nat → Int32} {x_1 : Int32} {x_2 : Int32} {x_3 : Int32} {Q : Int32 → Prop} (X : vX E cX7_orderOf 7 RX7 wsX7_orderOf (vT T) (vr 2 47)) (r : r_X7_orderOf E T o_p0 a_p0 s_p0_finding s_p0_asked s_p0_newPoints s_p0_newLines s_p0_faultAt s_p0_tries s_p0_things s_p0_goals s_p0_level s_p0_lineCount s_p0_lines s_p0_points Q) : ∀ (n_ : Nat) (x_4 : Int32) (x_5 : Int32), w_X7_orderOf_27 x_1 x_2 x_3 s_p0_lineCount s_p0_lines s_p0_points Q n_ x_4 x_5 → V E 0 0 27 [(0, .ref o_p0), (1, .int x_1), (2, .int x_2), (3, .int x_3), (4, .int x_4), (5, .int x_5)] [] (cl_X7_orderOf T o_p0 a_p0 s_p0_finding s_p0_asked s_p0_newPoints s_p0_newLines s_p0_faultAt s_p0_tries s_p0_things s_p0_goals s_p0_level s_p0_lineCount s_p0_lines s_p0_points) := by
  intro n_
  induction n_ with
  | zero => intro x_4 x_5 h; exact h.elim
  | succ n_ hK_27 =>
    intro x_4 x_5 h
    replace h : w_X7_orderOf_27s x_1 x_2 x_3 s_p0_lineCount s_p0_lines s_p0_points Q (w_X7_orderOf_27 x_1 x_2 x_3 s_p0_lineCount s_p0_lines s_p0_points Q n_) x_4 x_5 := h
    unfold w_X7_orderOf_27s at h
    refine v_iload X 5 dX7_orderOf_27 rfl ?_
    refine v_iload_n X 3 dX7_orderOf_29 rfl rfl ?_
    refine v_icmp_ge X (tgt := 89) dX7_orderOf_30 (by decide) (fun c_30 => ?_) (fun c_30 => ?_)
    · replace h := h.1 c_30
      refine v_aload_n X 0 dX7_orderOf_89 rfl rfl ?_
      refine v_get X 0 4 (F := TX7) (N := 33) iX7_orderOf_X7 rfl rfl (by decide) (List.mem_of_getElem? (i := 1) rfl) rfl rfl dX7_orderOf_90 ?_
      refine v_iload_n X 1 dX7_orderOf_93 rfl rfl ?_
      refine v_iald X 1 0 rfl rfl h.1 dX7_orderOf_94 ?_
      replace h := h.2
      refine v_if_ne X (tgt := 103) dX7_orderOf_95 (by decide) (fun c_95 => ?_) (fun c_95 => ?_)
      · replace h := h.1 c_95
        refine v_iload X 4 dX7_orderOf_103 rfl ?_
        refine v_iconst X dX7_orderOf_105 (v := (1 : Int32)) (by decide) ?_
        refine v_isub X dX7_orderOf_106 ?_
        refine v_lv (lv' := []) [] rfl ?_
        exact k_X7_orderOf_107 X r h
      · replace h := h.2 c_95
        refine v_bipush X dX7_orderOf_98 (v := (-9 : Int32)) (by decide) ?_
        refine v_goto X (tgt := 107) dX7_orderOf_100 (by decide) ?_
        refine v_lv (lv' := []) [] rfl ?_
        exact k_X7_orderOf_107 X r h
    · replace h := h.2 c_30
      refine v_iload_n X 2 dX7_orderOf_33 rfl rfl ?_
      refine v_if_eq X (tgt := 52) dX7_orderOf_34 (by decide) (fun c_34 => ?_) (fun c_34 => ?_)
      · replace h := h.1 c_34
        refine v_aload_n X 0 dX7_orderOf_52 rfl rfl ?_
        refine v_iload_n X 1 dX7_orderOf_53 rfl rfl ?_
        refine v_iload X 5 dX7_orderOf_54 rfl ?_
        refine v_callVl X (As := [.int x_1, .int x_5]) (rest := []) 2 0 (c_X7_through (l := vl E) (D := vD E) (T := T) (o_p0 := o_p0) (a_p0 := a_p0) (s_p0_finding := s_p0_finding) (s_p0_asked := s_p0_asked) (s_p0_newPoints := s_p0_newPoints) (s_p0_newLines := s_p0_newLines) (s_p0_faultAt := s_p0_faultAt) (s_p0_tries := s_p0_tries) (s_p0_things := s_p0_things) (s_p0_goals := s_p0_goals) (s_p0_level := s_p0_level) (s_p0_lineCount := s_p0_lineCount) (s_p0_lines := s_p0_lines) (x_1 := x_1) (x_2 := x_5) h) gX7_orderOf_X7_through rfl rfl (by decide +kernel) ⟨Nat.zero_le _, Nat.zero_le _⟩ ⟨rfl, rfl, by decide, by decide⟩ (Nat.le_of_ble_eq_true rfl) rfl rfl (wr := [vI T (a_p0 3) 6 s_p0_points]) [0, 1, 2] [3] rfl rfl rfl rfl (by decide) rfl dX7_orderOf_56 (fun r_56 u h => ?_)
        refine v_ws (ws' := (cl_X7_orderOf T o_p0 a_p0 s_p0_finding s_p0_asked s_p0_newPoints s_p0_newLines s_p0_faultAt s_p0_tries s_p0_things s_p0_goals s_p0_level s_p0_lineCount s_p0_lines s_p0_points)) [1, 2, 3, 0] rfl rfl ?_
        exact k_X7_orderOf_59 X r hK_27 h
      · replace h := h.2 c_34
        refine v_aload_n X 0 dX7_orderOf_37 rfl rfl ?_
        refine v_get X 0 7 (F := TX7) (N := 33) iX7_orderOf_X7 rfl rfl (by decide) (List.mem_of_getElem? (i := 3) rfl) rfl rfl dX7_orderOf_38 ?_
        refine v_bipush X dX7_orderOf_41 (v := (45 : Int32)) (by decide) ?_
        refine v_iload_n X 1 dX7_orderOf_43 rfl rfl ?_
        refine v_imul X dX7_orderOf_44 ?_
        refine v_iload X 5 dX7_orderOf_45 rfl ?_
        refine v_iadd X dX7_orderOf_47 ?_
        refine v_lald X 2 1 rfl rfl h.1 dX7_orderOf_48 ?_
        replace h := h.2
        refine v_goto X (tgt := 59) dX7_orderOf_49 (by decide) ?_
        exact k_X7_orderOf_59 X r hK_27 h
set_option maxHeartbeats 4000000 in
set_option maxRecDepth 100000 in
theorem k_X7_orderOf_19 {E : vE} {T : Nat → ClassId} {o_p0 : Nat} {a_p0 : Nat → Nat} {s_p0_finding : Int32} {s_p0_asked : Int64} {s_p0_newPoints : Int32} {s_p0_newLines : Int32} {s_p0_faultAt : Int64} {s_p0_tries : Int32} {s_p0_things : Int32} {s_p0_goals : Int32} {s_p0_level : Int32} {s_p0_lineCount : Nat → Int32} {s_p0_lines : Nat → Int64} {s_p0_points : Nat → Int32} {x_1 : Int32} {x_2 : Int32} {t_0 : Int32} {Q : Int32 → Prop} (X : vX E cX7_orderOf 7 RX7 wsX7_orderOf (vT T) (vr 2 47)) (r : r_X7_orderOf E T o_p0 a_p0 s_p0_finding s_p0_asked s_p0_newPoints s_p0_newLines s_p0_faultAt s_p0_tries s_p0_things s_p0_goals s_p0_level s_p0_lineCount s_p0_lines s_p0_points Q) (h : w_X7_orderOf_19 x_1 x_2 t_0 s_p0_lineCount s_p0_lines s_p0_points Q) : V E 0 0 19 [(0, .ref o_p0), (1, .int x_1), (2, .int x_2)] [.int t_0] (cl_X7_orderOf T o_p0 a_p0 s_p0_finding s_p0_asked s_p0_newPoints s_p0_newLines s_p0_faultAt s_p0_tries s_p0_things s_p0_goals s_p0_level s_p0_lineCount s_p0_lines s_p0_points) := by
  unfold w_X7_orderOf_19 at h
  refine v_istore_n X (lv' := [(3, .int t_0), (0, .ref o_p0), (1, .int x_1), (2, .int x_2)]) dX7_orderOf_19 rfl (by decide) rfl ?_
  refine v_bipush X dX7_orderOf_20 (v := (-9 : Int32)) (by decide) ?_
  refine v_istore X (lv' := [(4, .int (-9 : Int32)), (3, .int t_0), (0, .ref o_p0), (1, .int x_1), (2, .int x_2)]) dX7_orderOf_22 (by decide) rfl ?_
  refine v_iconst X dX7_orderOf_24 (v := (0 : Int32)) (by decide) ?_
  refine v_istore X (lv' := [(5, .int (0 : Int32)), (4, .int (-9 : Int32)), (3, .int t_0), (0, .ref o_p0), (1, .int x_1), (2, .int x_2)]) dX7_orderOf_25 (by decide) rfl ?_
  refine v_lv (lv' := [(0, .ref o_p0), (1, .int x_1), (2, .int x_2), (3, .int t_0), (4, .int (-9 : Int32)), (5, .int (0 : Int32))]) [3, 4, 5, 2, 1, 0] rfl ?_
  obtain ⟨n_, h⟩ := h
  exact k_X7_orderOf_27 X r n_ _ _ h
set_option maxHeartbeats 4000000 in
set_option maxRecDepth 100000 in
theorem c_X7_orderOf {l : Launch} {D : va_G} {T : Nat → ClassId} {o_p0 : Nat} {a_p0 : Nat → Nat} {s_p0_finding : Int32} {s_p0_asked : Int64} {s_p0_newPoints : Int32} {s_p0_newLines : Int32} {s_p0_faultAt : Int64} {s_p0_tries : Int32} {s_p0_things : Int32} {s_p0_goals : Int32} {s_p0_level : Int32} {s_p0_lineCount : Nat → Int32} {s_p0_lines : Nat → Int64} {s_p0_points : Nat → Int32} {x_1 : Int32} {x_2 : Int32} {Q : Int32 → Prop} (h : w_X7_orderOf x_1 x_2 s_p0_lineCount s_p0_lines s_p0_points Q) : vCi l D (vT T) yX7_orderOf wsX7_orderOf (vr 2 47) [.ref o_p0, .int x_1, .int x_2] (cl_X7_orderOf T o_p0 a_p0 s_p0_finding s_p0_asked s_p0_newPoints s_p0_newLines s_p0_faultAt s_p0_tries s_p0_things s_p0_goals s_p0_level s_p0_lineCount s_p0_lines s_p0_points) (fun v (u : Unit) => Q v) (fun (u : Unit) => (cl_X7_orderOf T o_p0 a_p0 s_p0_finding s_p0_asked s_p0_newPoints s_p0_newLines s_p0_faultAt s_p0_tries s_p0_things s_p0_goals s_p0_level s_p0_lineCount s_p0_lines s_p0_points)) := by
  refine vC_i (cc := cX7_orderOf) (nL := 7) (by decide +kernel) rfl ⟨rfl, rfl⟩ (Nat.le_of_ble_eq_true rfl) rfl ?_
  intro E el eD X r
  unfold w_X7_orderOf at h
  refine v_iload_n X 2 dX7_orderOf_0 rfl rfl ?_
  refine v_if_eq X (tgt := 13) dX7_orderOf_1 (by decide) (fun c_1 => ?_) (fun c_1 => ?_)
  · replace h := h.1 c_1
    refine v_aload_n X 0 dX7_orderOf_13 rfl rfl ?_
    refine v_get X 0 3 (F := TX7) (N := 33) iX7_orderOf_X7 rfl rfl (by decide) (List.mem_of_getElem? (i := 2) rfl) rfl rfl dX7_orderOf_14 ?_
    refine v_iload_n X 1 dX7_orderOf_17 rfl rfl ?_
    refine v_iald X 3 0 rfl rfl h.1 dX7_orderOf_18 ?_
    replace h := h.2
    exact k_X7_orderOf_19 X r h
  · replace h := h.2 c_1
    refine v_aload_n X 0 dX7_orderOf_4 rfl rfl ?_
    refine v_get X 0 4 (F := TX7) (N := 33) iX7_orderOf_X7 rfl rfl (by decide) (List.mem_of_getElem? (i := 1) rfl) rfl rfl dX7_orderOf_5 ?_
    refine v_iload_n X 1 dX7_orderOf_8 rfl rfl ?_
    refine v_iald X 1 0 rfl rfl h.1 dX7_orderOf_9 ?_
    replace h := h.2
    refine v_goto X (tgt := 19) dX7_orderOf_10 (by decide) ?_
    exact k_X7_orderOf_19 X r h
-- X7_isPoint
abbrev cl_X7_isPoint (T : Nat → ClassId) (o_p0 : Nat) (a_p0 : Nat → Nat) (s_p0_finding : Int32) (s_p0_asked : Int64) (s_p0_newPoints : Int32) (s_p0_newLines : Int32) (s_p0_faultAt : Int64) (s_p0_tries : Int32) (s_p0_things : Int32) (s_p0_goals : Int32) (s_p0_level : Int32) (s_p0_points : Nat → Int32) : va_W := [vO o_p0 4 [.int s_p0_finding, .ref (a_p0 1), .long s_p0_asked, .ref (a_p0 3), .ref (a_p0 4), .ref (a_p0 5), .ref (a_p0 6), .ref (a_p0 7), .int s_p0_newPoints, .int s_p0_newLines, .ref (a_p0 10), .ref (a_p0 11), .long s_p0_faultAt, .int s_p0_tries, .int s_p0_things, .int s_p0_goals, .ref (a_p0 16), .ref (a_p0 17), .ref (a_p0 18), .ref (a_p0 19), .ref (a_p0 20), .ref (a_p0 21), .int s_p0_level, .ref (a_p0 23), .ref (a_p0 24), .ref (a_p0 25), .ref (a_p0 26), .ref (a_p0 27), .ref (a_p0 28), .ref (a_p0 29), .ref (a_p0 30), .ref (a_p0 31), .ref (a_p0 32)], vI T (a_p0 3) 6 s_p0_points]
abbrev r_X7_isPoint (E : vE) (T : Nat → ClassId) (o_p0 : Nat) (a_p0 : Nat → Nat) (s_p0_finding : Int32) (s_p0_asked : Int64) (s_p0_newPoints : Int32) (s_p0_newLines : Int32) (s_p0_faultAt : Int64) (s_p0_tries : Int32) (s_p0_things : Int32) (s_p0_goals : Int32) (s_p0_level : Int32) (s_p0_points : Nat → Int32) (Q : Int32 → Prop) : Prop := vRz E cX7_isPoint (fun v (u : Unit) => Q v) (fun (u : Unit) => (cl_X7_isPoint T o_p0 a_p0 s_p0_finding s_p0_asked s_p0_newPoints s_p0_newLines s_p0_faultAt s_p0_tries s_p0_things s_p0_goals s_p0_level s_p0_points))
def w_X7_isPoint (x_1 : Int32) (x_2 : Int32) (s_p0_points : Nat → Int32) (Q : Int32 → Prop) : Prop := (vp_in x_1 6 ∧ (w_X7_in x_2 (0 : Int32) ((s_p0_points (x_1).toNatClampNeg) - (1 : Int32)) (fun (r_10 : Int32) => (vz r_10 ∧ Q r_10))))
-- X7_isPoint
theorem iX7_isPoint_X7 : ∀ w ∈ wsX70, w ∈ wsX7_isPoint := by decide +kernel
set_option maxHeartbeats 4000000 in
set_option maxRecDepth 100000 in
theorem c_X7_isPoint {l : Launch} {D : va_G} {T : Nat → ClassId} {o_p0 : Nat} {a_p0 : Nat → Nat} {s_p0_finding : Int32} {s_p0_asked : Int64} {s_p0_newPoints : Int32} {s_p0_newLines : Int32} {s_p0_faultAt : Int64} {s_p0_tries : Int32} {s_p0_things : Int32} {s_p0_goals : Int32} {s_p0_level : Int32} {s_p0_points : Nat → Int32} {x_1 : Int32} {x_2 : Int32} {Q : Int32 → Prop} (h : w_X7_isPoint x_1 x_2 s_p0_points Q) : vCi l D (vT T) yX7_isPoint wsX7_isPoint (vr 1 22) [.ref o_p0, .int x_1, .int x_2] (cl_X7_isPoint T o_p0 a_p0 s_p0_finding s_p0_asked s_p0_newPoints s_p0_newLines s_p0_faultAt s_p0_tries s_p0_things s_p0_goals s_p0_level s_p0_points) (fun v (u : Unit) => Q v) (fun (u : Unit) => (cl_X7_isPoint T o_p0 a_p0 s_p0_finding s_p0_asked s_p0_newPoints s_p0_newLines s_p0_faultAt s_p0_tries s_p0_things s_p0_goals s_p0_level s_p0_points)) := by
  refine vC_z (cc := cX7_isPoint) (nL := 3) (by decide +kernel) rfl ⟨rfl, rfl⟩ (Nat.le_of_ble_eq_true rfl) rfl ?_
  intro E el eD X r
  unfold w_X7_isPoint at h
  refine v_iload_n X 2 dX7_isPoint_0 rfl rfl ?_
  refine v_iconst X dX7_isPoint_1 (v := (0 : Int32)) (by decide) ?_
  refine v_aload_n X 0 dX7_isPoint_2 rfl rfl ?_
  refine v_get X 0 3 (F := TX7) (N := 33) iX7_isPoint_X7 rfl rfl (by decide) (List.mem_of_getElem? (i := 1) rfl) rfl rfl dX7_isPoint_3 ?_
  refine v_iload_n X 1 dX7_isPoint_6 rfl rfl ?_
  refine v_iald X 1 0 rfl rfl h.1 dX7_isPoint_7 ?_
  replace h := h.2
  refine v_iconst X dX7_isPoint_8 (v := (1 : Int32)) (by decide) ?_
  refine v_isub X dX7_isPoint_9 ?_
  refine v_callSi0 X (As := [.int x_2, .int (0 : Int32), .int ((s_p0_points (x_1).toNatClampNeg) - (1 : Int32))]) (rest := []) 3 (c_X7_in (l := vl E) (D := vD E) (T := T) (x_0 := x_2) (x_1 := (0 : Int32)) (x_2 := ((s_p0_points (x_1).toNatClampNeg) - (1 : Int32))) h) gX7_isPoint_X7_in rfl rfl (by decide +kernel) ⟨Nat.zero_le _, Nat.zero_le _⟩ ⟨rfl, rfl, by decide, by decide⟩ (Nat.le_of_ble_eq_true rfl) rfl dX7_isPoint_10 (fun r_10 h => ?_)
  exact r _ _ _ () _ dX7_isPoint_13 h.1 h.2 rfl
-- X7_isRegular
abbrev cl_X7_isRegular (T : Nat → ClassId) (o_p0 : Nat) (a_p0 : Nat → Nat) (s_p0_finding : Int32) (s_p0_asked : Int64) (s_p0_newPoints : Int32) (s_p0_newLines : Int32) (s_p0_faultAt : Int64) (s_p0_tries : Int32) (s_p0_things : Int32) (s_p0_goals : Int32) (s_p0_level : Int32) (s_p0_lineCount : Nat → Int32) (s_p0_lines : Nat → Int64) (s_p0_points : Nat → Int32) : va_W := [vO o_p0 4 [.int s_p0_finding, .ref (a_p0 1), .long s_p0_asked, .ref (a_p0 3), .ref (a_p0 4), .ref (a_p0 5), .ref (a_p0 6), .ref (a_p0 7), .int s_p0_newPoints, .int s_p0_newLines, .ref (a_p0 10), .ref (a_p0 11), .long s_p0_faultAt, .int s_p0_tries, .int s_p0_things, .int s_p0_goals, .ref (a_p0 16), .ref (a_p0 17), .ref (a_p0 18), .ref (a_p0 19), .ref (a_p0 20), .ref (a_p0 21), .int s_p0_level, .ref (a_p0 23), .ref (a_p0 24), .ref (a_p0 25), .ref (a_p0 26), .ref (a_p0 27), .ref (a_p0 28), .ref (a_p0 29), .ref (a_p0 30), .ref (a_p0 31), .ref (a_p0 32)], vI T (a_p0 4) 6 s_p0_lineCount, vJ T (a_p0 7) 270 s_p0_lines, vI T (a_p0 3) 6 s_p0_points]
abbrev r_X7_isRegular (E : vE) (T : Nat → ClassId) (o_p0 : Nat) (a_p0 : Nat → Nat) (s_p0_finding : Int32) (s_p0_asked : Int64) (s_p0_newPoints : Int32) (s_p0_newLines : Int32) (s_p0_faultAt : Int64) (s_p0_tries : Int32) (s_p0_things : Int32) (s_p0_goals : Int32) (s_p0_level : Int32) (s_p0_lineCount : Nat → Int32) (s_p0_lines : Nat → Int64) (s_p0_points : Nat → Int32) (Q : Int32 → Prop) : Prop := vRz E cX7_isRegular (fun v (u : Unit) => Q v) (fun (u : Unit) => (cl_X7_isRegular T o_p0 a_p0 s_p0_finding s_p0_asked s_p0_newPoints s_p0_newLines s_p0_faultAt s_p0_tries s_p0_things s_p0_goals s_p0_level s_p0_lineCount s_p0_lines s_p0_points))
def w_X7_isRegular_70 (x_6 : Int32) (s_p0_lineCount : Nat → Int32) (s_p0_lines : Nat → Int64) (s_p0_points : Nat → Int32) (Q : Int32 → Prop) : Prop := (vz x_6 ∧ Q x_6)
def w_X7_isRegular_62 (x_1 : Int32) (x_2 : Int32) (x_3 : Int32) (x_4 : Int64) (x_7 : Int32) (t_0 : Int32) (s_p0_lineCount : Nat → Int32) (s_p0_lines : Nat → Int64) (s_p0_points : Nat → Int32) (K_14 : (Int32) → (Int32) → Prop) (Q : Int32 → Prop) : Prop := (K_14 t_0 (x_7 + (1 : Int32)))
def w_X7_isRegular_57 (x_1 : Int32) (x_2 : Int32) (x_3 : Int32) (x_4 : Int64) (x_7 : Int32) (s_p0_lineCount : Nat → Int32) (s_p0_lines : Nat → Int64) (s_p0_points : Nat → Int32) (K_14 : (Int32) → (Int32) → Prop) (Q : Int32 → Prop) : Prop := (w_X7_isRegular_62 x_1 x_2 x_3 x_4 x_7 (1 : Int32) s_p0_lineCount s_p0_lines s_p0_points K_14 Q)
def w_X7_isRegular_14s (x_1 : Int32) (x_2 : Int32) (x_3 : Int32) (x_4 : Int64) (s_p0_lineCount : Nat → Int32) (s_p0_lines : Nat → Int64) (s_p0_points : Nat → Int32) (Q : Int32 → Prop) (K_14 : (Int32) → (Int32) → Prop) (x_6 : Int32) (x_7 : Int32) : Prop := (vp_in x_1 6 ∧ (((s_p0_points (x_1).toNatClampNeg) ≤ x_7 → (w_X7_isRegular_70 x_6 s_p0_lineCount s_p0_lines s_p0_points Q)) ∧ (¬ (s_p0_points (x_1).toNatClampNeg) ≤ x_7 → ((x_6 = 0 → (w_X7_isRegular_70 x_6 s_p0_lineCount s_p0_lines s_p0_points Q)) ∧ (¬ x_6 = 0 → (w_X7_has x_4 x_7 (fun (r_34 : Int32) => ((¬ r_34 = 0 → (w_X7_isRegular_57 x_1 x_2 x_3 x_4 x_7 s_p0_lineCount s_p0_lines s_p0_points K_14 Q)) ∧ (r_34 = 0 → (w_X7_spanOf x_1 x_2 x_7 s_p0_lineCount s_p0_lines s_p0_points (fun (r_45 : Int64) => (w_X7_bits r_45 (fun (r_48 : Int32) => ((¬ r_48 = (x_3 + (1 : Int32)) → (w_X7_isRegular_62 x_1 x_2 x_3 x_4 x_7 (0 : Int32) s_p0_lineCount s_p0_lines s_p0_points K_14 Q)) ∧ (r_48 = (x_3 + (1 : Int32)) → (w_X7_isRegular_57 x_1 x_2 x_3 x_4 x_7 s_p0_lineCount s_p0_lines s_p0_points K_14 Q))))))))))))))))
def w_X7_isRegular_14 (x_1 : Int32) (x_2 : Int32) (x_3 : Int32) (x_4 : Int64) (s_p0_lineCount : Nat → Int32) (s_p0_lines : Nat → Int64) (s_p0_points : Nat → Int32) (Q : Int32 → Prop) : Nat → (Int32) → (Int32) → Prop
  | 0 => fun _ _ => False
  | n_ + 1 => w_X7_isRegular_14s x_1 x_2 x_3 x_4 s_p0_lineCount s_p0_lines s_p0_points Q (w_X7_isRegular_14 x_1 x_2 x_3 x_4 s_p0_lineCount s_p0_lines s_p0_points Q n_)
def w_X7_isRegular (x_1 : Int32) (x_2 : Int32) (x_3 : Int32) (s_p0_lineCount : Nat → Int32) (s_p0_lines : Nat → Int64) (s_p0_points : Nat → Int32) (Q : Int32 → Prop) : Prop := (w_X7_nearTo x_1 x_2 s_p0_lineCount s_p0_lines (fun (r_3 : Int64) => (∃ n_, w_X7_isRegular_14 x_1 x_2 x_3 r_3 s_p0_lineCount s_p0_lines s_p0_points Q n_ (1 : Int32) (0 : Int32))))
-- X7_isRegular
theorem iX7_isRegular_X7 : ∀ w ∈ wsX70, w ∈ wsX7_isRegular := by decide +kernel
set_option maxHeartbeats 4000000 in
set_option maxRecDepth 100000 in
theorem k_X7_isRegular_70 {E : vE} {T : Nat → ClassId} {o_p0 : Nat} {a_p0 : Nat → Nat} {s_p0_finding : Int32} {s_p0_asked : Int64} {s_p0_newPoints : Int32} {s_p0_newLines : Int32} {s_p0_faultAt : Int64} {s_p0_tries : Int32} {s_p0_things : Int32} {s_p0_goals : Int32} {s_p0_level : Int32} {s_p0_lineCount : Nat → Int32} {s_p0_lines : Nat → Int64} {s_p0_points : Nat → Int32} {x_6 : Int32} {Q : Int32 → Prop} (X : vX E cX7_isRegular 8 RX7 wsX7_isRegular (vT T) (vr 4 96)) (r : r_X7_isRegular E T o_p0 a_p0 s_p0_finding s_p0_asked s_p0_newPoints s_p0_newLines s_p0_faultAt s_p0_tries s_p0_things s_p0_goals s_p0_level s_p0_lineCount s_p0_lines s_p0_points Q) (h : w_X7_isRegular_70 x_6 s_p0_lineCount s_p0_lines s_p0_points Q) : V E 0 0 70 [(6, .int x_6)] [] (cl_X7_isRegular T o_p0 a_p0 s_p0_finding s_p0_asked s_p0_newPoints s_p0_newLines s_p0_faultAt s_p0_tries s_p0_things s_p0_goals s_p0_level s_p0_lineCount s_p0_lines s_p0_points) := by
  unfold w_X7_isRegular_70 at h
  refine v_iload X 0 dX7_isRegular_70 rfl ?_
  exact r _ _ _ () _ dX7_isRegular_72 h.1 h.2 rfl
set_option maxHeartbeats 4000000 in
set_option maxRecDepth 100000 in
theorem k_X7_isRegular_62 {E : vE} {T : Nat → ClassId} {o_p0 : Nat} {a_p0 : Nat → Nat} {s_p0_finding : Int32} {s_p0_asked : Int64} {s_p0_newPoints : Int32} {s_p0_newLines : Int32} {s_p0_faultAt : Int64} {s_p0_tries : Int32} {s_p0_things : Int32} {s_p0_goals : Int32} {s_p0_level : Int32} {s_p0_lineCount : Nat → Int32} {s_p0_lines : Nat → Int64} {s_p0_points : Nat → Int32} {x_1 : Int32} {x_2 : Int32} {x_3 : Int32} {x_4 : Int64} {x_7 : Int32} {t_0 : Int32} {K_14 : (Int32) → (Int32) → Prop} {Q : Int32 → Prop} (X : vX E cX7_isRegular 8 RX7 wsX7_isRegular (vT T) (vr 4 96)) (r : r_X7_isRegular E T o_p0 a_p0 s_p0_finding s_p0_asked s_p0_newPoints s_p0_newLines s_p0_faultAt s_p0_tries s_p0_things s_p0_goals s_p0_level s_p0_lineCount s_p0_lines s_p0_points Q) (hK_14 : ∀ (x_6' : Int32) (x_7' : Int32), K_14 x_6' x_7' → V E 0 0 14 [(0, .ref o_p0), (1, .int x_1), (2, .int x_2), (3, .int x_3), (4, .long x_4), (6, .int x_6'), (7, .int x_7')] [] (cl_X7_isRegular T o_p0 a_p0 s_p0_finding s_p0_asked s_p0_newPoints s_p0_newLines s_p0_faultAt s_p0_tries s_p0_things s_p0_goals s_p0_level s_p0_lineCount s_p0_lines s_p0_points)) (h : w_X7_isRegular_62 x_1 x_2 x_3 x_4 x_7 t_0 s_p0_lineCount s_p0_lines s_p0_points K_14 Q) : V E 0 0 62 [(0, .ref o_p0), (1, .int x_1), (2, .int x_2), (3, .int x_3), (4, .long x_4), (7, .int x_7)] [.int t_0] (cl_X7_isRegular T o_p0 a_p0 s_p0_finding s_p0_asked s_p0_newPoints s_p0_newLines s_p0_faultAt s_p0_tries s_p0_things s_p0_goals s_p0_level s_p0_lineCount s_p0_lines s_p0_points) := by
  unfold w_X7_isRegular_62 at h
  refine v_istore X (lv' := [(6, .int t_0), (0, .ref o_p0), (1, .int x_1), (2, .int x_2), (3, .int x_3), (4, .long x_4), (7, .int x_7)]) dX7_isRegular_62 (by decide) rfl ?_
  refine v_iinc X (v := (x_7 + (1 : Int32))) (lv' := [(7, .int (x_7 + (1 : Int32))), (6, .int t_0), (0, .ref o_p0), (1, .int x_1), (2, .int x_2), (3, .int x_3), (4, .long x_4)]) 6 dX7_isRegular_64 rfl rfl (by decide) rfl ?_
  refine v_goto X (tgt := 14) dX7_isRegular_67 (by decide) ?_
  refine v_lv (lv' := [(0, .ref o_p0), (1, .int x_1), (2, .int x_2), (3, .int x_3), (4, .long x_4), (6, .int t_0), (7, .int (x_7 + (1 : Int32)))]) [2, 3, 4, 5, 6, 1, 0] rfl ?_
  exact hK_14 _ _ h
set_option maxHeartbeats 4000000 in
set_option maxRecDepth 100000 in
theorem k_X7_isRegular_57 {E : vE} {T : Nat → ClassId} {o_p0 : Nat} {a_p0 : Nat → Nat} {s_p0_finding : Int32} {s_p0_asked : Int64} {s_p0_newPoints : Int32} {s_p0_newLines : Int32} {s_p0_faultAt : Int64} {s_p0_tries : Int32} {s_p0_things : Int32} {s_p0_goals : Int32} {s_p0_level : Int32} {s_p0_lineCount : Nat → Int32} {s_p0_lines : Nat → Int64} {s_p0_points : Nat → Int32} {x_1 : Int32} {x_2 : Int32} {x_3 : Int32} {x_4 : Int64} {x_7 : Int32} {K_14 : (Int32) → (Int32) → Prop} {Q : Int32 → Prop} (X : vX E cX7_isRegular 8 RX7 wsX7_isRegular (vT T) (vr 4 96)) (r : r_X7_isRegular E T o_p0 a_p0 s_p0_finding s_p0_asked s_p0_newPoints s_p0_newLines s_p0_faultAt s_p0_tries s_p0_things s_p0_goals s_p0_level s_p0_lineCount s_p0_lines s_p0_points Q) (hK_14 : ∀ (x_6' : Int32) (x_7' : Int32), K_14 x_6' x_7' → V E 0 0 14 [(0, .ref o_p0), (1, .int x_1), (2, .int x_2), (3, .int x_3), (4, .long x_4), (6, .int x_6'), (7, .int x_7')] [] (cl_X7_isRegular T o_p0 a_p0 s_p0_finding s_p0_asked s_p0_newPoints s_p0_newLines s_p0_faultAt s_p0_tries s_p0_things s_p0_goals s_p0_level s_p0_lineCount s_p0_lines s_p0_points)) (h : w_X7_isRegular_57 x_1 x_2 x_3 x_4 x_7 s_p0_lineCount s_p0_lines s_p0_points K_14 Q) : V E 0 0 57 [(0, .ref o_p0), (1, .int x_1), (2, .int x_2), (3, .int x_3), (4, .long x_4), (7, .int x_7)] [] (cl_X7_isRegular T o_p0 a_p0 s_p0_finding s_p0_asked s_p0_newPoints s_p0_newLines s_p0_faultAt s_p0_tries s_p0_things s_p0_goals s_p0_level s_p0_lineCount s_p0_lines s_p0_points) := by
  unfold w_X7_isRegular_57 at h
  refine v_iconst X dX7_isRegular_57 (v := (1 : Int32)) (by decide) ?_
  refine v_goto X (tgt := 62) dX7_isRegular_58 (by decide) ?_
  exact k_X7_isRegular_62 X r hK_14 h
set_option maxHeartbeats 4000000 in
set_option maxRecDepth 100000 in
theorem k_X7_isRegular_14 {E : vE} {T : Nat → ClassId} {o_p0 : Nat} {a_p0 : Nat → Nat} {s_p0_finding : Int32} {s_p0_asked : Int64} {s_p0_newPoints : Int32} {s_p0_newLines : Int32} {s_p0_faultAt : Int64} {s_p0_tries : Int32} {s_p0_things : Int32} {s_p0_goals : Int32} {s_p0_level : Int32} {s_p0_lineCount : Nat → Int32} {s_p0_lines : Nat → Int64} {s_p0_points : Nat → Int32} {x_1 : Int32} {x_2 : Int32} {x_3 : Int32} {x_4 : Int64} {Q : Int32 → Prop} (X : vX E cX7_isRegular 8 RX7 wsX7_isRegular (vT T) (vr 4 96)) (r : r_X7_isRegular E T o_p0 a_p0 s_p0_finding s_p0_asked s_p0_newPoints s_p0_newLines s_p0_faultAt s_p0_tries s_p0_things s_p0_goals s_p0_level s_p0_lineCount s_p0_lines s_p0_points Q) : ∀ (n_ : Nat) (x_6 : Int32) (x_7 : Int32), w_X7_isRegular_14 x_1 x_2 x_3 x_4 s_p0_lineCount s_p0_lines s_p0_points Q n_ x_6 x_7 → V E 0 0 14 [(0, .ref o_p0), (1, .int x_1), (2, .int x_2), (3, .int x_3), (4, .long x_4), (6, .int x_6), (7, .int x_7)] [] (cl_X7_isRegular T o_p0 a_p0 s_p0_finding s_p0_asked s_p0_newPoints s_p0_newLines s_p0_faultAt s_p0_tries s_p0_things s_p0_goals s_p0_level s_p0_lineCount s_p0_lines s_p0_points) := by
  intro n_
  induction n_ with
  | zero => intro x_6 x_7 h; exact h.elim
  | succ n_ hK_14 =>
    intro x_6 x_7 h
    replace h : w_X7_isRegular_14s x_1 x_2 x_3 x_4 s_p0_lineCount s_p0_lines s_p0_points Q (w_X7_isRegular_14 x_1 x_2 x_3 x_4 s_p0_lineCount s_p0_lines s_p0_points Q n_) x_6 x_7 := h
    unfold w_X7_isRegular_14s at h
    refine v_iload X 6 dX7_isRegular_14 rfl ?_
    refine v_aload_n X 0 dX7_isRegular_16 rfl rfl ?_
    refine v_get X 0 3 (F := TX7) (N := 33) iX7_isRegular_X7 rfl rfl (by decide) (List.mem_of_getElem? (i := 1) rfl) rfl rfl dX7_isRegular_17 ?_
    refine v_iload_n X 1 dX7_isRegular_20 rfl rfl ?_
    refine v_iald X 3 0 rfl rfl h.1 dX7_isRegular_21 ?_
    replace h := h.2
    refine v_icmp_ge X (tgt := 70) dX7_isRegular_22 (by decide) (fun c_22 => ?_) (fun c_22 => ?_)
    · replace h := h.1 c_22
      refine v_lv (lv' := [(6, .int x_6)]) [5] rfl ?_
      exact k_X7_isRegular_70 X r h
    · replace h := h.2 c_22
      refine v_iload X 5 dX7_isRegular_25 rfl ?_
      refine v_if_eq X (tgt := 70) dX7_isRegular_27 (by decide) (fun c_27 => ?_) (fun c_27 => ?_)
      · replace h := h.1 c_27
        refine v_lv (lv' := [(6, .int x_6)]) [5] rfl ?_
        exact k_X7_isRegular_70 X r h
      · replace h := h.2 c_27
        refine v_lload X 4 dX7_isRegular_30 rfl ?_
        refine v_iload X 6 dX7_isRegular_32 rfl ?_
        refine v_callSi0 X (As := [.long x_4, .int x_7]) (rest := []) 2 (c_X7_has (l := vl E) (D := vD E) (T := T) (x_0 := x_4) (x_2 := x_7) h) gX7_isRegular_X7_has rfl rfl (by decide +kernel) ⟨Nat.zero_le _, Nat.zero_le _⟩ ⟨rfl, rfl, by decide, by decide⟩ (Nat.le_of_ble_eq_true rfl) rfl dX7_isRegular_34 (fun r_34 h => ?_)
        refine v_if_ne X (tgt := 57) dX7_isRegular_37 (by decide) (fun c_37 => ?_) (fun c_37 => ?_)
        · replace h := h.1 c_37
          refine v_lv (lv' := [(0, .ref o_p0), (1, .int x_1), (2, .int x_2), (3, .int x_3), (4, .long x_4), (7, .int x_7)]) [0, 1, 2, 3, 4, 6] rfl ?_
          exact k_X7_isRegular_57 X r hK_14 h
        · replace h := h.2 c_37
          refine v_aload_n X 0 dX7_isRegular_40 rfl rfl ?_
          refine v_iload_n X 1 dX7_isRegular_41 rfl rfl ?_
          refine v_iload_n X 2 dX7_isRegular_42 rfl rfl ?_
          refine v_iload X 6 dX7_isRegular_43 rfl ?_
          refine v_callVl X (As := [.int x_1, .int x_2, .int x_7]) (rest := []) 3 0 (c_X7_spanOf (l := vl E) (D := vD E) (T := T) (o_p0 := o_p0) (a_p0 := a_p0) (s_p0_finding := s_p0_finding) (s_p0_asked := s_p0_asked) (s_p0_newPoints := s_p0_newPoints) (s_p0_newLines := s_p0_newLines) (s_p0_faultAt := s_p0_faultAt) (s_p0_tries := s_p0_tries) (s_p0_things := s_p0_things) (s_p0_goals := s_p0_goals) (s_p0_level := s_p0_level) (s_p0_lineCount := s_p0_lineCount) (s_p0_lines := s_p0_lines) (s_p0_points := s_p0_points) (x_1 := x_1) (x_2 := x_2) (x_3 := x_7) h) gX7_isRegular_X7_spanOf rfl rfl (by decide +kernel) ⟨Nat.zero_le _, Nat.zero_le _⟩ ⟨rfl, rfl, by decide, by decide⟩ (Nat.le_of_ble_eq_true rfl) rfl rfl (wr := []) [0, 1, 2, 3] [] rfl rfl rfl rfl (by decide) rfl dX7_isRegular_45 (fun r_45 u h => ?_)
          refine v_ws (ws' := (cl_X7_isRegular T o_p0 a_p0 s_p0_finding s_p0_asked s_p0_newPoints s_p0_newLines s_p0_faultAt s_p0_tries s_p0_things s_p0_goals s_p0_level s_p0_lineCount s_p0_lines s_p0_points)) [0, 1, 2, 3] rfl rfl ?_
          refine v_callSi0 X (As := [.long r_45]) (rest := []) 1 (c_X7_bits (l := vl E) (D := vD E) (T := T) (x_0 := r_45) h) gX7_isRegular_X7_bits rfl rfl (by decide +kernel) ⟨Nat.zero_le _, Nat.zero_le _⟩ ⟨rfl, rfl, by decide, by decide⟩ (Nat.le_of_ble_eq_true rfl) rfl dX7_isRegular_48 (fun r_48 h => ?_)
          refine v_iload_n X 3 dX7_isRegular_51 rfl rfl ?_
          refine v_iconst X dX7_isRegular_52 (v := (1 : Int32)) (by decide) ?_
          refine v_iadd X dX7_isRegular_53 ?_
          refine v_icmp_ne X (tgt := 61) dX7_isRegular_54 (by decide) (fun c_54 => ?_) (fun c_54 => ?_)
          · replace h := h.1 c_54
            refine v_iconst X dX7_isRegular_61 (v := (0 : Int32)) (by decide) ?_
            refine v_lv (lv' := [(0, .ref o_p0), (1, .int x_1), (2, .int x_2), (3, .int x_3), (4, .long x_4), (7, .int x_7)]) [0, 1, 2, 3, 4, 6] rfl ?_
            exact k_X7_isRegular_62 X r hK_14 h
          · replace h := h.2 c_54
            refine v_lv (lv' := [(0, .ref o_p0), (1, .int x_1), (2, .int x_2), (3, .int x_3), (4, .long x_4), (7, .int x_7)]) [0, 1, 2, 3, 4, 6] rfl ?_
            exact k_X7_isRegular_57 X r hK_14 h
set_option maxHeartbeats 4000000 in
set_option maxRecDepth 100000 in
theorem c_X7_isRegular {l : Launch} {D : va_G} {T : Nat → ClassId} {o_p0 : Nat} {a_p0 : Nat → Nat} {s_p0_finding : Int32} {s_p0_asked : Int64} {s_p0_newPoints : Int32} {s_p0_newLines : Int32} {s_p0_faultAt : Int64} {s_p0_tries : Int32} {s_p0_things : Int32} {s_p0_goals : Int32} {s_p0_level : Int32} {s_p0_lineCount : Nat → Int32} {s_p0_lines : Nat → Int64} {s_p0_points : Nat → Int32} {x_1 : Int32} {x_2 : Int32} {x_3 : Int32} {Q : Int32 → Prop} (h : w_X7_isRegular x_1 x_2 x_3 s_p0_lineCount s_p0_lines s_p0_points Q) : vCi l D (vT T) yX7_isRegular wsX7_isRegular (vr 4 96) [.ref o_p0, .int x_1, .int x_2, .int x_3] (cl_X7_isRegular T o_p0 a_p0 s_p0_finding s_p0_asked s_p0_newPoints s_p0_newLines s_p0_faultAt s_p0_tries s_p0_things s_p0_goals s_p0_level s_p0_lineCount s_p0_lines s_p0_points) (fun v (u : Unit) => Q v) (fun (u : Unit) => (cl_X7_isRegular T o_p0 a_p0 s_p0_finding s_p0_asked s_p0_newPoints s_p0_newLines s_p0_faultAt s_p0_tries s_p0_things s_p0_goals s_p0_level s_p0_lineCount s_p0_lines s_p0_points)) := by
  refine vC_z (cc := cX7_isRegular) (nL := 8) (by decide +kernel) rfl ⟨rfl, rfl⟩ (Nat.le_of_ble_eq_true rfl) rfl ?_
  intro E el eD X r
  unfold w_X7_isRegular at h
  refine v_aload_n X 0 dX7_isRegular_0 rfl rfl ?_
  refine v_iload_n X 1 dX7_isRegular_1 rfl rfl ?_
  refine v_iload_n X 2 dX7_isRegular_2 rfl rfl ?_
  refine v_callVl X (As := [.int x_1, .int x_2]) (rest := []) 2 0 (c_X7_nearTo (l := vl E) (D := vD E) (T := T) (o_p0 := o_p0) (a_p0 := a_p0) (s_p0_finding := s_p0_finding) (s_p0_asked := s_p0_asked) (s_p0_newPoints := s_p0_newPoints) (s_p0_newLines := s_p0_newLines) (s_p0_faultAt := s_p0_faultAt) (s_p0_tries := s_p0_tries) (s_p0_things := s_p0_things) (s_p0_goals := s_p0_goals) (s_p0_level := s_p0_level) (s_p0_lineCount := s_p0_lineCount) (s_p0_lines := s_p0_lines) (x_1 := x_1) (x_2 := x_2) h) gX7_isRegular_X7_nearTo rfl rfl (by decide +kernel) ⟨Nat.zero_le _, Nat.zero_le _⟩ ⟨rfl, rfl, by decide, by decide⟩ (Nat.le_of_ble_eq_true rfl) rfl rfl (wr := [vI T (a_p0 3) 6 s_p0_points]) [0, 1, 2] [3] rfl rfl rfl rfl (by decide) rfl dX7_isRegular_3 (fun r_3 u h => ?_)
  refine v_ws (ws' := (cl_X7_isRegular T o_p0 a_p0 s_p0_finding s_p0_asked s_p0_newPoints s_p0_newLines s_p0_faultAt s_p0_tries s_p0_things s_p0_goals s_p0_level s_p0_lineCount s_p0_lines s_p0_points)) [1, 2, 3, 0] rfl rfl ?_
  refine v_lstore X (lv' := [(4, .long r_3), (0, .ref o_p0), (1, .int x_1), (2, .int x_2), (3, .int x_3)]) dX7_isRegular_6 (by decide) rfl ?_
  refine v_iconst X dX7_isRegular_8 (v := (1 : Int32)) (by decide) ?_
  refine v_istore X (lv' := [(6, .int (1 : Int32)), (4, .long r_3), (0, .ref o_p0), (1, .int x_1), (2, .int x_2), (3, .int x_3)]) dX7_isRegular_9 (by decide) rfl ?_
  refine v_iconst X dX7_isRegular_11 (v := (0 : Int32)) (by decide) ?_
  refine v_istore X (lv' := [(7, .int (0 : Int32)), (6, .int (1 : Int32)), (4, .long r_3), (0, .ref o_p0), (1, .int x_1), (2, .int x_2), (3, .int x_3)]) dX7_isRegular_12 (by decide) rfl ?_
  refine v_lv (lv' := [(0, .ref o_p0), (1, .int x_1), (2, .int x_2), (3, .int x_3), (4, .long r_3), (6, .int (1 : Int32)), (7, .int (0 : Int32))]) [3, 4, 5, 6, 2, 1, 0] rfl ?_
  obtain ⟨n_, h⟩ := h
  exact k_X7_isRegular_14 X r n_ _ _ h
-- X7_faultOf
abbrev cl_X7_faultOf (T : Nat → ClassId) (o_p0 : Nat) (a_p0 : Nat → Nat) (s_p0_finding : Int32) (s_p0_asked : Int64) (s_p0_newPoints : Int32) (s_p0_newLines : Int32) (s_p0_faultAt : Int64) (s_p0_tries : Int32) (s_p0_things : Int32) (s_p0_goals : Int32) (s_p0_level : Int32) (s_p0_lineCount : Nat → Int32) (s_p0_lines : Nat → Int64) (s_p0_points : Nat → Int32) : va_W := [vO o_p0 4 [.int s_p0_finding, .ref (a_p0 1), .long s_p0_asked, .ref (a_p0 3), .ref (a_p0 4), .ref (a_p0 5), .ref (a_p0 6), .ref (a_p0 7), .int s_p0_newPoints, .int s_p0_newLines, .ref (a_p0 10), .ref (a_p0 11), .long s_p0_faultAt, .int s_p0_tries, .int s_p0_things, .int s_p0_goals, .ref (a_p0 16), .ref (a_p0 17), .ref (a_p0 18), .ref (a_p0 19), .ref (a_p0 20), .ref (a_p0 21), .int s_p0_level, .ref (a_p0 23), .ref (a_p0 24), .ref (a_p0 25), .ref (a_p0 26), .ref (a_p0 27), .ref (a_p0 28), .ref (a_p0 29), .ref (a_p0 30), .ref (a_p0 31), .ref (a_p0 32)], vI T (a_p0 4) 6 s_p0_lineCount, vJ T (a_p0 7) 270 s_p0_lines, vI T (a_p0 3) 6 s_p0_points]
abbrev r_X7_faultOf (E : vE) (T : Nat → ClassId) (o_p0 : Nat) (a_p0 : Nat → Nat) (s_p0_finding : Int32) (s_p0_asked : Int64) (s_p0_newPoints : Int32) (s_p0_newLines : Int32) (s_p0_tries : Int32) (s_p0_things : Int32) (s_p0_goals : Int32) (s_p0_level : Int32) (s_p0_lineCount : Nat → Int32) (s_p0_lines : Nat → Int64) (s_p0_points : Nat → Int32) (Q : Int32 → (Int64) → Prop) : Prop := vRi E cX7_faultOf (fun v (u : (Int64)) => Q v u) (fun (u : (Int64)) => (cl_X7_faultOf T o_p0 a_p0 s_p0_finding s_p0_asked s_p0_newPoints s_p0_newLines u s_p0_tries s_p0_things s_p0_goals s_p0_level s_p0_lineCount s_p0_lines s_p0_points))
def w_X7_faultOf_251 (x_1 : Int32) (x_2 : Int32) (x_3 : Int32) (x_4 : Int32) (s_p0_faultAt : Int64) (s_p0_lineCount : Nat → Int32) (s_p0_lines : Nat → Int64) (s_p0_points : Nat → Int32) (K_86 : (Int32) → Prop) (K_94 : (Int32) → Prop) (Q : Int32 → (Int64) → Prop) : Prop := (K_94 (x_4 + (1 : Int32)))
def w_X7_faultOf_250 (t_0 : Int32) (s_p0_faultAt : Int64) (s_p0_lineCount : Nat → Int32) (s_p0_lines : Nat → Int64) (s_p0_points : Nat → Int32) (Q : Int32 → (Int64) → Prop) : Prop := (Q t_0 s_p0_faultAt)
def w_X7_faultOf_201 (x_1 : Int32) (x_2 : Int32) (x_3 : Int32) (x_4 : Int32) (x_5 : Int32) (s_p0_faultAt : Int64) (s_p0_lineCount : Nat → Int32) (s_p0_lines : Nat → Int64) (s_p0_points : Nat → Int32) (K_86 : (Int32) → Prop) (K_94 : (Int32) → Prop) (Q : Int32 → (Int64) → Prop) : Prop := (vp_in (((45 : Int32) * x_1) + x_3) 270 ∧ (w_X7_has (s_p0_lines ((((45 : Int32) * x_1) + x_3)).toNatClampNeg) x_4 (fun (r_214 : Int32) => ((¬ r_214 = 0 → (w_X7_faultOf_251 x_1 x_2 x_3 x_4 s_p0_faultAt s_p0_lineCount s_p0_lines s_p0_points K_86 K_94 Q)) ∧ (r_214 = 0 → ((x_5 = (1 : Int32) → (w_X7_faultOf_251 x_1 x_2 x_3 x_4 s_p0_faultAt s_p0_lineCount s_p0_lines s_p0_points K_86 K_94 Q)) ∧ (¬ x_5 = (1 : Int32) → ((¬ x_5 = 0 → (w_X7_faultOf_250 (3 : Int32) (((100 : Int64) * (x_3).toInt64) + (x_4).toInt64) s_p0_lineCount s_p0_lines s_p0_points Q)) ∧ (x_5 = 0 → (w_X7_faultOf_250 (2 : Int32) (((100 : Int64) * (x_3).toInt64) + (x_4).toInt64) s_p0_lineCount s_p0_lines s_p0_points Q))))))))))
def w_X7_faultOf_192 (x_1 : Int32) (x_2 : Int32) (x_3 : Int32) (x_4 : Int32) (x_6 : Int32) (t_0 : Int32) (t_1 : Int32) (s_p0_faultAt : Int64) (s_p0_lineCount : Nat → Int32) (s_p0_lines : Nat → Int64) (s_p0_points : Nat → Int32) (K_86 : (Int32) → Prop) (K_94 : (Int32) → Prop) (K_111 : (Int32) → (Int32) → Prop) (Q : Int32 → (Int64) → Prop) : Prop := (K_111 (t_0 + t_1) (x_6 + (1 : Int32)))
def w_X7_faultOf_191 (x_1 : Int32) (x_2 : Int32) (x_3 : Int32) (x_4 : Int32) (x_6 : Int32) (t_0 : Int32) (s_p0_faultAt : Int64) (s_p0_lineCount : Nat → Int32) (s_p0_lines : Nat → Int64) (s_p0_points : Nat → Int32) (K_86 : (Int32) → Prop) (K_94 : (Int32) → Prop) (K_111 : (Int32) → (Int32) → Prop) (Q : Int32 → (Int64) → Prop) : Prop := (w_X7_faultOf_192 x_1 x_2 x_3 x_4 x_6 t_0 (0 : Int32) s_p0_faultAt s_p0_lineCount s_p0_lines s_p0_points K_86 K_94 K_111 Q)
def w_X7_faultOf_111s (x_1 : Int32) (x_2 : Int32) (x_3 : Int32) (x_4 : Int32) (s_p0_faultAt : Int64) (s_p0_lineCount : Nat → Int32) (s_p0_lines : Nat → Int64) (s_p0_points : Nat → Int32) (K_86 : (Int32) → Prop) (K_94 : (Int32) → Prop) (Q : Int32 → (Int64) → Prop) (K_111 : (Int32) → (Int32) → Prop) (x_5 : Int32) (x_6 : Int32) : Prop := ((x_2 ≤ x_6 → (w_X7_faultOf_201 x_1 x_2 x_3 x_4 x_5 s_p0_faultAt s_p0_lineCount s_p0_lines s_p0_points K_86 K_94 Q)) ∧ (¬ x_2 ≤ x_6 → (vp_in (((45 : Int32) * x_1) + x_3) 270 ∧ (w_X7_has (s_p0_lines ((((45 : Int32) * x_1) + x_3)).toNatClampNeg) x_4 (fun (r_130 : Int32) => ((¬ r_130 = 0 → (w_X7_faultOf_201 x_1 x_2 x_3 x_4 x_5 s_p0_faultAt s_p0_lineCount s_p0_lines s_p0_points K_86 K_94 Q)) ∧ (r_130 = 0 → (vp_in (((45 : Int32) * x_1) + x_6) 270 ∧ (w_X7_has (s_p0_lines ((((45 : Int32) * x_1) + x_6)).toNatClampNeg) x_4 (fun (r_152 : Int32) => ((r_152 = 0 → (w_X7_faultOf_191 x_1 x_2 x_3 x_4 x_6 x_5 s_p0_faultAt s_p0_lineCount s_p0_lines s_p0_points K_86 K_94 K_111 Q)) ∧ (¬ r_152 = 0 → (vp_in (((45 : Int32) * x_1) + x_6) 270 ∧ (vp_in (((45 : Int32) * x_1) + x_3) 270 ∧ (((lg_cmp ((s_p0_lines ((((45 : Int32) * x_1) + x_6)).toNatClampNeg) &&& (s_p0_lines ((((45 : Int32) * x_1) + x_3)).toNatClampNeg)) (0 : Int64)) = 0 → (w_X7_faultOf_191 x_1 x_2 x_3 x_4 x_6 x_5 s_p0_faultAt s_p0_lineCount s_p0_lines s_p0_points K_86 K_94 K_111 Q)) ∧ (¬ (lg_cmp ((s_p0_lines ((((45 : Int32) * x_1) + x_6)).toNatClampNeg) &&& (s_p0_lines ((((45 : Int32) * x_1) + x_3)).toNatClampNeg)) (0 : Int64)) = 0 → (w_X7_faultOf_192 x_1 x_2 x_3 x_4 x_6 x_5 (1 : Int32) s_p0_faultAt s_p0_lineCount s_p0_lines s_p0_points K_86 K_94 K_111 Q)))))))))))))))))
def w_X7_faultOf_111 (x_1 : Int32) (x_2 : Int32) (x_3 : Int32) (x_4 : Int32) (s_p0_faultAt : Int64) (s_p0_lineCount : Nat → Int32) (s_p0_lines : Nat → Int64) (s_p0_points : Nat → Int32) (K_86 : (Int32) → Prop) (K_94 : (Int32) → Prop) (Q : Int32 → (Int64) → Prop) : Nat → (Int32) → (Int32) → Prop
  | 0 => fun _ _ => False
  | n_ + 1 => w_X7_faultOf_111s x_1 x_2 x_3 x_4 s_p0_faultAt s_p0_lineCount s_p0_lines s_p0_points K_86 K_94 Q (w_X7_faultOf_111 x_1 x_2 x_3 x_4 s_p0_faultAt s_p0_lineCount s_p0_lines s_p0_points K_86 K_94 Q n_)
def w_X7_faultOf_94s (x_1 : Int32) (x_2 : Int32) (x_3 : Int32) (s_p0_faultAt : Int64) (s_p0_lineCount : Nat → Int32) (s_p0_lines : Nat → Int64) (s_p0_points : Nat → Int32) (K_86 : (Int32) → Prop) (Q : Int32 → (Int64) → Prop) (K_94 : (Int32) → Prop) (x_4 : Int32) : Prop := (vp_in x_1 6 ∧ (((s_p0_points (x_1).toNatClampNeg) ≤ x_4 → (K_86 (x_3 + (1 : Int32)))) ∧ (¬ (s_p0_points (x_1).toNatClampNeg) ≤ x_4 → (∃ n_, w_X7_faultOf_111 x_1 x_2 x_3 x_4 s_p0_faultAt s_p0_lineCount s_p0_lines s_p0_points K_86 K_94 Q n_ (0 : Int32) (0 : Int32)))))
def w_X7_faultOf_94 (x_1 : Int32) (x_2 : Int32) (x_3 : Int32) (s_p0_faultAt : Int64) (s_p0_lineCount : Nat → Int32) (s_p0_lines : Nat → Int64) (s_p0_points : Nat → Int32) (K_86 : (Int32) → Prop) (Q : Int32 → (Int64) → Prop) : Nat → (Int32) → Prop
  | 0 => fun _ => False
  | n_ + 1 => w_X7_faultOf_94s x_1 x_2 x_3 s_p0_faultAt s_p0_lineCount s_p0_lines s_p0_points K_86 Q (w_X7_faultOf_94 x_1 x_2 x_3 s_p0_faultAt s_p0_lineCount s_p0_lines s_p0_points K_86 Q n_)
def w_X7_faultOf_86s (x_1 : Int32) (x_2 : Int32) (s_p0_faultAt : Int64) (s_p0_lineCount : Nat → Int32) (s_p0_lines : Nat → Int64) (s_p0_points : Nat → Int32) (Q : Int32 → (Int64) → Prop) (K_86 : (Int32) → Prop) (x_3 : Int32) : Prop := ((x_2 ≤ x_3 → (Q (0 : Int32) s_p0_faultAt)) ∧ (¬ x_2 ≤ x_3 → (∃ n_, w_X7_faultOf_94 x_1 x_2 x_3 s_p0_faultAt s_p0_lineCount s_p0_lines s_p0_points K_86 Q n_ (0 : Int32))))
def w_X7_faultOf_86 (x_1 : Int32) (x_2 : Int32) (s_p0_faultAt : Int64) (s_p0_lineCount : Nat → Int32) (s_p0_lines : Nat → Int64) (s_p0_points : Nat → Int32) (Q : Int32 → (Int64) → Prop) : Nat → (Int32) → Prop
  | 0 => fun _ => False
  | n_ + 1 => w_X7_faultOf_86s x_1 x_2 s_p0_faultAt s_p0_lineCount s_p0_lines s_p0_points Q (w_X7_faultOf_86 x_1 x_2 s_p0_faultAt s_p0_lineCount s_p0_lines s_p0_points Q n_)
def w_X7_faultOf_19s (x_1 : Int32) (x_2 : Int32) (x_3 : Int32) (s_p0_faultAt : Int64) (s_p0_lineCount : Nat → Int32) (s_p0_lines : Nat → Int64) (s_p0_points : Nat → Int32) (K_9 : (Int32) → Prop) (Q : Int32 → (Int64) → Prop) (K_19 : (Int32) → Prop) (x_4 : Int32) : Prop := ((x_2 ≤ x_4 → (K_9 (x_3 + (1 : Int32)))) ∧ (¬ x_2 ≤ x_4 → (vp_in (((45 : Int32) * x_1) + x_3) 270 ∧ (vp_in (((45 : Int32) * x_1) + x_4) 270 ∧ (w_X7_bits ((s_p0_lines ((((45 : Int32) * x_1) + x_3)).toNatClampNeg) &&& (s_p0_lines ((((45 : Int32) * x_1) + x_4)).toNatClampNeg)) (fun (r_49 : Int32) => ((r_49 ≤ (1 : Int32) → (K_19 (x_4 + (1 : Int32)))) ∧ (¬ r_49 ≤ (1 : Int32) → (Q (1 : Int32) (((100 : Int64) * (x_3).toInt64) + (x_4).toInt64))))))))))
def w_X7_faultOf_19 (x_1 : Int32) (x_2 : Int32) (x_3 : Int32) (s_p0_faultAt : Int64) (s_p0_lineCount : Nat → Int32) (s_p0_lines : Nat → Int64) (s_p0_points : Nat → Int32) (K_9 : (Int32) → Prop) (Q : Int32 → (Int64) → Prop) : Nat → (Int32) → Prop
  | 0 => fun _ => False
  | n_ + 1 => w_X7_faultOf_19s x_1 x_2 x_3 s_p0_faultAt s_p0_lineCount s_p0_lines s_p0_points K_9 Q (w_X7_faultOf_19 x_1 x_2 x_3 s_p0_faultAt s_p0_lineCount s_p0_lines s_p0_points K_9 Q n_)
def w_X7_faultOf_9s (x_1 : Int32) (x_2 : Int32) (s_p0_faultAt : Int64) (s_p0_lineCount : Nat → Int32) (s_p0_lines : Nat → Int64) (s_p0_points : Nat → Int32) (Q : Int32 → (Int64) → Prop) (K_9 : (Int32) → Prop) (x_3 : Int32) : Prop := ((x_2 ≤ x_3 → (∃ n_, w_X7_faultOf_86 x_1 x_2 s_p0_faultAt s_p0_lineCount s_p0_lines s_p0_points Q n_ (0 : Int32))) ∧ (¬ x_2 ≤ x_3 → (∃ n_, w_X7_faultOf_19 x_1 x_2 x_3 s_p0_faultAt s_p0_lineCount s_p0_lines s_p0_points K_9 Q n_ (x_3 + (1 : Int32)))))
def w_X7_faultOf_9 (x_1 : Int32) (x_2 : Int32) (s_p0_faultAt : Int64) (s_p0_lineCount : Nat → Int32) (s_p0_lines : Nat → Int64) (s_p0_points : Nat → Int32) (Q : Int32 → (Int64) → Prop) : Nat → (Int32) → Prop
  | 0 => fun _ => False
  | n_ + 1 => w_X7_faultOf_9s x_1 x_2 s_p0_faultAt s_p0_lineCount s_p0_lines s_p0_points Q (w_X7_faultOf_9 x_1 x_2 s_p0_faultAt s_p0_lineCount s_p0_lines s_p0_points Q n_)
def w_X7_faultOf (x_1 : Int32) (s_p0_faultAt : Int64) (s_p0_lineCount : Nat → Int32) (s_p0_lines : Nat → Int64) (s_p0_points : Nat → Int32) (Q : Int32 → (Int64) → Prop) : Prop := (vp_in x_1 6 ∧ (∃ n_, w_X7_faultOf_9 x_1 (s_p0_lineCount (x_1).toNatClampNeg) s_p0_faultAt s_p0_lineCount s_p0_lines s_p0_points Q n_ (0 : Int32)))
-- X7_faultOf
theorem iX7_faultOf_X7 : ∀ w ∈ wsX70, w ∈ wsX7_faultOf := by decide +kernel
set_option maxHeartbeats 4000000 in
set_option maxRecDepth 100000 in
theorem k_X7_faultOf_251 {E : vE} {T : Nat → ClassId} {o_p0 : Nat} {a_p0 : Nat → Nat} {s_p0_finding : Int32} {s_p0_asked : Int64} {s_p0_newPoints : Int32} {s_p0_newLines : Int32} {s_p0_faultAt : Int64} {s_p0_tries : Int32} {s_p0_things : Int32} {s_p0_goals : Int32} {s_p0_level : Int32} {s_p0_lineCount : Nat → Int32} {s_p0_lines : Nat → Int64} {s_p0_points : Nat → Int32} {x_1 : Int32} {x_2 : Int32} {x_3 : Int32} {x_4 : Int32} {K_86 : (Int32) → Prop} {K_94 : (Int32) → Prop} {Q : Int32 → (Int64) → Prop} (X : vX E cX7_faultOf 7 RX7 wsX7_faultOf (vT T) (vr 1 23)) (r : r_X7_faultOf E T o_p0 a_p0 s_p0_finding s_p0_asked s_p0_newPoints s_p0_newLines s_p0_tries s_p0_things s_p0_goals s_p0_level s_p0_lineCount s_p0_lines s_p0_points Q) (hK_86 : ∀ (x_3' : Int32), K_86 x_3' → V E 0 0 86 [(0, .ref o_p0), (1, .int x_1), (2, .int x_2), (3, .int x_3')] [] (cl_X7_faultOf T o_p0 a_p0 s_p0_finding s_p0_asked s_p0_newPoints s_p0_newLines s_p0_faultAt s_p0_tries s_p0_things s_p0_goals s_p0_level s_p0_lineCount s_p0_lines s_p0_points)) (hK_94 : ∀ (x_4' : Int32), K_94 x_4' → V E 0 0 94 [(0, .ref o_p0), (1, .int x_1), (2, .int x_2), (3, .int x_3), (4, .int x_4')] [] (cl_X7_faultOf T o_p0 a_p0 s_p0_finding s_p0_asked s_p0_newPoints s_p0_newLines s_p0_faultAt s_p0_tries s_p0_things s_p0_goals s_p0_level s_p0_lineCount s_p0_lines s_p0_points)) (h : w_X7_faultOf_251 x_1 x_2 x_3 x_4 s_p0_faultAt s_p0_lineCount s_p0_lines s_p0_points K_86 K_94 Q) : V E 0 0 251 [(0, .ref o_p0), (1, .int x_1), (2, .int x_2), (3, .int x_3), (4, .int x_4)] [] (cl_X7_faultOf T o_p0 a_p0 s_p0_finding s_p0_asked s_p0_newPoints s_p0_newLines s_p0_faultAt s_p0_tries s_p0_things s_p0_goals s_p0_level s_p0_lineCount s_p0_lines s_p0_points) := by
  unfold w_X7_faultOf_251 at h
  refine v_iinc X (v := (x_4 + (1 : Int32))) (lv' := [(4, .int (x_4 + (1 : Int32))), (0, .ref o_p0), (1, .int x_1), (2, .int x_2), (3, .int x_3)]) 4 dX7_faultOf_251 rfl rfl (by decide) rfl ?_
  refine v_goto X (tgt := 94) dX7_faultOf_254 (by decide) ?_
  refine v_lv (lv' := [(0, .ref o_p0), (1, .int x_1), (2, .int x_2), (3, .int x_3), (4, .int (x_4 + (1 : Int32)))]) [1, 2, 3, 4, 0] rfl ?_
  exact hK_94 _ h
set_option maxHeartbeats 4000000 in
set_option maxRecDepth 100000 in
theorem k_X7_faultOf_250 {E : vE} {T : Nat → ClassId} {o_p0 : Nat} {a_p0 : Nat → Nat} {s_p0_finding : Int32} {s_p0_asked : Int64} {s_p0_newPoints : Int32} {s_p0_newLines : Int32} {s_p0_faultAt : Int64} {s_p0_tries : Int32} {s_p0_things : Int32} {s_p0_goals : Int32} {s_p0_level : Int32} {s_p0_lineCount : Nat → Int32} {s_p0_lines : Nat → Int64} {s_p0_points : Nat → Int32} {t_0 : Int32} {Q : Int32 → (Int64) → Prop} (X : vX E cX7_faultOf 7 RX7 wsX7_faultOf (vT T) (vr 1 23)) (r : r_X7_faultOf E T o_p0 a_p0 s_p0_finding s_p0_asked s_p0_newPoints s_p0_newLines s_p0_tries s_p0_things s_p0_goals s_p0_level s_p0_lineCount s_p0_lines s_p0_points Q) (h : w_X7_faultOf_250 t_0 s_p0_faultAt s_p0_lineCount s_p0_lines s_p0_points Q) : V E 0 0 250 [] [.int t_0] (cl_X7_faultOf T o_p0 a_p0 s_p0_finding s_p0_asked s_p0_newPoints s_p0_newLines s_p0_faultAt s_p0_tries s_p0_things s_p0_goals s_p0_level s_p0_lineCount s_p0_lines s_p0_points) := by
  unfold w_X7_faultOf_250 at h
  exact r _ _ _ (s_p0_faultAt) _ dX7_faultOf_250 h rfl
set_option maxHeartbeats 4000000 in
set_option maxRecDepth 100000 in
theorem k_X7_faultOf_201 {E : vE} {T : Nat → ClassId} {o_p0 : Nat} {a_p0 : Nat → Nat} {s_p0_finding : Int32} {s_p0_asked : Int64} {s_p0_newPoints : Int32} {s_p0_newLines : Int32} {s_p0_faultAt : Int64} {s_p0_tries : Int32} {s_p0_things : Int32} {s_p0_goals : Int32} {s_p0_level : Int32} {s_p0_lineCount : Nat → Int32} {s_p0_lines : Nat → Int64} {s_p0_points : Nat → Int32} {x_1 : Int32} {x_2 : Int32} {x_3 : Int32} {x_4 : Int32} {x_5 : Int32} {K_86 : (Int32) → Prop} {K_94 : (Int32) → Prop} {Q : Int32 → (Int64) → Prop} (X : vX E cX7_faultOf 7 RX7 wsX7_faultOf (vT T) (vr 1 23)) (r : r_X7_faultOf E T o_p0 a_p0 s_p0_finding s_p0_asked s_p0_newPoints s_p0_newLines s_p0_tries s_p0_things s_p0_goals s_p0_level s_p0_lineCount s_p0_lines s_p0_points Q) (hK_86 : ∀ (x_3' : Int32), K_86 x_3' → V E 0 0 86 [(0, .ref o_p0), (1, .int x_1), (2, .int x_2), (3, .int x_3')] [] (cl_X7_faultOf T o_p0 a_p0 s_p0_finding s_p0_asked s_p0_newPoints s_p0_newLines s_p0_faultAt s_p0_tries s_p0_things s_p0_goals s_p0_level s_p0_lineCount s_p0_lines s_p0_points)) (hK_94 : ∀ (x_4' : Int32), K_94 x_4' → V E 0 0 94 [(0, .ref o_p0), (1, .int x_1), (2, .int x_2), (3, .int x_3), (4, .int x_4')] [] (cl_X7_faultOf T o_p0 a_p0 s_p0_finding s_p0_asked s_p0_newPoints s_p0_newLines s_p0_faultAt s_p0_tries s_p0_things s_p0_goals s_p0_level s_p0_lineCount s_p0_lines s_p0_points)) (h : w_X7_faultOf_201 x_1 x_2 x_3 x_4 x_5 s_p0_faultAt s_p0_lineCount s_p0_lines s_p0_points K_86 K_94 Q) : V E 0 0 201 [(0, .ref o_p0), (1, .int x_1), (2, .int x_2), (3, .int x_3), (4, .int x_4), (5, .int x_5)] [] (cl_X7_faultOf T o_p0 a_p0 s_p0_finding s_p0_asked s_p0_newPoints s_p0_newLines s_p0_faultAt s_p0_tries s_p0_things s_p0_goals s_p0_level s_p0_lineCount s_p0_lines s_p0_points) := by
  unfold w_X7_faultOf_201 at h
  refine v_aload_n X 0 dX7_faultOf_201 rfl rfl ?_
  refine v_get X 0 7 (F := TX7) (N := 33) iX7_faultOf_X7 rfl rfl (by decide) (List.mem_of_getElem? (i := 2) rfl) rfl rfl dX7_faultOf_202 ?_
  refine v_bipush X dX7_faultOf_205 (v := (45 : Int32)) (by decide) ?_
  refine v_iload_n X 1 dX7_faultOf_207 rfl rfl ?_
  refine v_imul X dX7_faultOf_208 ?_
  refine v_iload_n X 3 dX7_faultOf_209 rfl rfl ?_
  refine v_iadd X dX7_faultOf_210 ?_
  refine v_lald X 2 1 rfl rfl h.1 dX7_faultOf_211 ?_
  replace h := h.2
  refine v_iload X 4 dX7_faultOf_212 rfl ?_
  refine v_callSi0 X (As := [.long (s_p0_lines ((((45 : Int32) * x_1) + x_3)).toNatClampNeg), .int x_4]) (rest := []) 2 (c_X7_has (l := vl E) (D := vD E) (T := T) (x_0 := (s_p0_lines ((((45 : Int32) * x_1) + x_3)).toNatClampNeg)) (x_2 := x_4) h) gX7_faultOf_X7_has rfl rfl (by decide +kernel) ⟨Nat.zero_le _, Nat.zero_le _⟩ ⟨rfl, rfl, by decide, by decide⟩ (Nat.le_of_ble_eq_true rfl) rfl dX7_faultOf_214 (fun r_214 h => ?_)
  refine v_if_ne X (tgt := 251) dX7_faultOf_217 (by decide) (fun c_217 => ?_) (fun c_217 => ?_)
  · replace h := h.1 c_217
    refine v_lv (lv' := [(0, .ref o_p0), (1, .int x_1), (2, .int x_2), (3, .int x_3), (4, .int x_4)]) [0, 1, 2, 3, 4] rfl ?_
    exact k_X7_faultOf_251 X r hK_86 hK_94 h
  · replace h := h.2 c_217
    refine v_iload X 5 dX7_faultOf_220 rfl ?_
    refine v_iconst X dX7_faultOf_222 (v := (1 : Int32)) (by decide) ?_
    refine v_icmp_eq X (tgt := 251) dX7_faultOf_223 (by decide) (fun c_223 => ?_) (fun c_223 => ?_)
    · replace h := h.1 c_223
      refine v_lv (lv' := [(0, .ref o_p0), (1, .int x_1), (2, .int x_2), (3, .int x_3), (4, .int x_4)]) [0, 1, 2, 3, 4] rfl ?_
      exact k_X7_faultOf_251 X r hK_86 hK_94 h
    · replace h := h.2 c_223
      refine v_aload_n X 0 dX7_faultOf_226 rfl rfl ?_
      refine v_ldc2 X (v := (100 : Int64)) (List.mem_of_getElem? (i := 3) rfl) dX7_faultOf_227 ?_
      refine v_iload_n X 3 dX7_faultOf_230 rfl rfl ?_
      refine v_i2l X dX7_faultOf_231 ?_
      refine v_lmul X dX7_faultOf_232 ?_
      refine v_iload X 4 dX7_faultOf_233 rfl ?_
      refine v_i2l X dX7_faultOf_235 ?_
      refine v_ladd X dX7_faultOf_236 ?_
      refine v_put X (ws' := (cl_X7_faultOf T o_p0 a_p0 s_p0_finding s_p0_asked s_p0_newPoints s_p0_newLines (((100 : Int64) * (x_3).toInt64) + (x_4).toInt64) s_p0_tries s_p0_things s_p0_goals s_p0_level s_p0_lineCount s_p0_lines s_p0_points)) 0 12 (F := TX7) (N := 33) iX7_faultOf_X7 rfl tyX7 tyX7_ok nmX7 rfl (by decide) (List.mem_of_getElem? (i := 4) rfl) rfl rfl rfl rfl rfl (Nat.le_of_ble_eq_true rfl) rfl dX7_faultOf_237 ?_
      refine v_iload X 5 dX7_faultOf_240 rfl ?_
      refine v_if_ne X (tgt := 249) dX7_faultOf_242 (by decide) (fun c_242 => ?_) (fun c_242 => ?_)
      · replace h := h.1 c_242
        refine v_iconst X dX7_faultOf_249 (v := (3 : Int32)) (by decide) ?_
        refine v_lv (lv' := []) [] rfl ?_
        exact k_X7_faultOf_250 X r h
      · replace h := h.2 c_242
        refine v_iconst X dX7_faultOf_245 (v := (2 : Int32)) (by decide) ?_
        refine v_goto X (tgt := 250) dX7_faultOf_246 (by decide) ?_
        refine v_lv (lv' := []) [] rfl ?_
        exact k_X7_faultOf_250 X r h
set_option maxHeartbeats 4000000 in
set_option maxRecDepth 100000 in
theorem k_X7_faultOf_192 {E : vE} {T : Nat → ClassId} {o_p0 : Nat} {a_p0 : Nat → Nat} {s_p0_finding : Int32} {s_p0_asked : Int64} {s_p0_newPoints : Int32} {s_p0_newLines : Int32} {s_p0_faultAt : Int64} {s_p0_tries : Int32} {s_p0_things : Int32} {s_p0_goals : Int32} {s_p0_level : Int32} {s_p0_lineCount : Nat → Int32} {s_p0_lines : Nat → Int64} {s_p0_points : Nat → Int32} {x_1 : Int32} {x_2 : Int32} {x_3 : Int32} {x_4 : Int32} {x_6 : Int32} {t_0 : Int32} {t_1 : Int32} {K_86 : (Int32) → Prop} {K_94 : (Int32) → Prop} {K_111 : (Int32) → (Int32) → Prop} {Q : Int32 → (Int64) → Prop} (X : vX E cX7_faultOf 7 RX7 wsX7_faultOf (vT T) (vr 1 23)) (r : r_X7_faultOf E T o_p0 a_p0 s_p0_finding s_p0_asked s_p0_newPoints s_p0_newLines s_p0_tries s_p0_things s_p0_goals s_p0_level s_p0_lineCount s_p0_lines s_p0_points Q) (hK_86 : ∀ (x_3' : Int32), K_86 x_3' → V E 0 0 86 [(0, .ref o_p0), (1, .int x_1), (2, .int x_2), (3, .int x_3')] [] (cl_X7_faultOf T o_p0 a_p0 s_p0_finding s_p0_asked s_p0_newPoints s_p0_newLines s_p0_faultAt s_p0_tries s_p0_things s_p0_goals s_p0_level s_p0_lineCount s_p0_lines s_p0_points)) (hK_94 : ∀ (x_4' : Int32), K_94 x_4' → V E 0 0 94 [(0, .ref o_p0), (1, .int x_1), (2, .int x_2), (3, .int x_3), (4, .int x_4')] [] (cl_X7_faultOf T o_p0 a_p0 s_p0_finding s_p0_asked s_p0_newPoints s_p0_newLines s_p0_faultAt s_p0_tries s_p0_things s_p0_goals s_p0_level s_p0_lineCount s_p0_lines s_p0_points)) (hK_111 : ∀ (x_5' : Int32) (x_6' : Int32), K_111 x_5' x_6' → V E 0 0 111 [(0, .ref o_p0), (1, .int x_1), (2, .int x_2), (3, .int x_3), (4, .int x_4), (5, .int x_5'), (6, .int x_6')] [] (cl_X7_faultOf T o_p0 a_p0 s_p0_finding s_p0_asked s_p0_newPoints s_p0_newLines s_p0_faultAt s_p0_tries s_p0_things s_p0_goals s_p0_level s_p0_lineCount s_p0_lines s_p0_points)) (h : w_X7_faultOf_192 x_1 x_2 x_3 x_4 x_6 t_0 t_1 s_p0_faultAt s_p0_lineCount s_p0_lines s_p0_points K_86 K_94 K_111 Q) : V E 0 0 192 [(0, .ref o_p0), (1, .int x_1), (2, .int x_2), (3, .int x_3), (4, .int x_4), (6, .int x_6)] [.int t_1, .int t_0] (cl_X7_faultOf T o_p0 a_p0 s_p0_finding s_p0_asked s_p0_newPoints s_p0_newLines s_p0_faultAt s_p0_tries s_p0_things s_p0_goals s_p0_level s_p0_lineCount s_p0_lines s_p0_points) := by
  unfold w_X7_faultOf_192 at h
  refine v_iadd X dX7_faultOf_192 ?_
  refine v_istore X (lv' := [(5, .int (t_0 + t_1)), (0, .ref o_p0), (1, .int x_1), (2, .int x_2), (3, .int x_3), (4, .int x_4), (6, .int x_6)]) dX7_faultOf_193 (by decide) rfl ?_
  refine v_iinc X (v := (x_6 + (1 : Int32))) (lv' := [(6, .int (x_6 + (1 : Int32))), (5, .int (t_0 + t_1)), (0, .ref o_p0), (1, .int x_1), (2, .int x_2), (3, .int x_3), (4, .int x_4)]) 6 dX7_faultOf_195 rfl rfl (by decide) rfl ?_
  refine v_goto X (tgt := 111) dX7_faultOf_198 (by decide) ?_
  refine v_lv (lv' := [(0, .ref o_p0), (1, .int x_1), (2, .int x_2), (3, .int x_3), (4, .int x_4), (5, .int (t_0 + t_1)), (6, .int (x_6 + (1 : Int32)))]) [2, 3, 4, 5, 6, 1, 0] rfl ?_
  exact hK_111 _ _ h
set_option maxHeartbeats 4000000 in
set_option maxRecDepth 100000 in
theorem k_X7_faultOf_191 {E : vE} {T : Nat → ClassId} {o_p0 : Nat} {a_p0 : Nat → Nat} {s_p0_finding : Int32} {s_p0_asked : Int64} {s_p0_newPoints : Int32} {s_p0_newLines : Int32} {s_p0_faultAt : Int64} {s_p0_tries : Int32} {s_p0_things : Int32} {s_p0_goals : Int32} {s_p0_level : Int32} {s_p0_lineCount : Nat → Int32} {s_p0_lines : Nat → Int64} {s_p0_points : Nat → Int32} {x_1 : Int32} {x_2 : Int32} {x_3 : Int32} {x_4 : Int32} {x_6 : Int32} {t_0 : Int32} {K_86 : (Int32) → Prop} {K_94 : (Int32) → Prop} {K_111 : (Int32) → (Int32) → Prop} {Q : Int32 → (Int64) → Prop} (X : vX E cX7_faultOf 7 RX7 wsX7_faultOf (vT T) (vr 1 23)) (r : r_X7_faultOf E T o_p0 a_p0 s_p0_finding s_p0_asked s_p0_newPoints s_p0_newLines s_p0_tries s_p0_things s_p0_goals s_p0_level s_p0_lineCount s_p0_lines s_p0_points Q) (hK_86 : ∀ (x_3' : Int32), K_86 x_3' → V E 0 0 86 [(0, .ref o_p0), (1, .int x_1), (2, .int x_2), (3, .int x_3')] [] (cl_X7_faultOf T o_p0 a_p0 s_p0_finding s_p0_asked s_p0_newPoints s_p0_newLines s_p0_faultAt s_p0_tries s_p0_things s_p0_goals s_p0_level s_p0_lineCount s_p0_lines s_p0_points)) (hK_94 : ∀ (x_4' : Int32), K_94 x_4' → V E 0 0 94 [(0, .ref o_p0), (1, .int x_1), (2, .int x_2), (3, .int x_3), (4, .int x_4')] [] (cl_X7_faultOf T o_p0 a_p0 s_p0_finding s_p0_asked s_p0_newPoints s_p0_newLines s_p0_faultAt s_p0_tries s_p0_things s_p0_goals s_p0_level s_p0_lineCount s_p0_lines s_p0_points)) (hK_111 : ∀ (x_5' : Int32) (x_6' : Int32), K_111 x_5' x_6' → V E 0 0 111 [(0, .ref o_p0), (1, .int x_1), (2, .int x_2), (3, .int x_3), (4, .int x_4), (5, .int x_5'), (6, .int x_6')] [] (cl_X7_faultOf T o_p0 a_p0 s_p0_finding s_p0_asked s_p0_newPoints s_p0_newLines s_p0_faultAt s_p0_tries s_p0_things s_p0_goals s_p0_level s_p0_lineCount s_p0_lines s_p0_points)) (h : w_X7_faultOf_191 x_1 x_2 x_3 x_4 x_6 t_0 s_p0_faultAt s_p0_lineCount s_p0_lines s_p0_points K_86 K_94 K_111 Q) : V E 0 0 191 [(0, .ref o_p0), (1, .int x_1), (2, .int x_2), (3, .int x_3), (4, .int x_4), (6, .int x_6)] [.int t_0] (cl_X7_faultOf T o_p0 a_p0 s_p0_finding s_p0_asked s_p0_newPoints s_p0_newLines s_p0_faultAt s_p0_tries s_p0_things s_p0_goals s_p0_level s_p0_lineCount s_p0_lines s_p0_points) := by
  unfold w_X7_faultOf_191 at h
  refine v_iconst X dX7_faultOf_191 (v := (0 : Int32)) (by decide) ?_
  exact k_X7_faultOf_192 X r hK_86 hK_94 hK_111 h
set_option maxHeartbeats 4000000 in
set_option maxRecDepth 100000 in
theorem k_X7_faultOf_111 {E : vE} {T : Nat → ClassId} {o_p0 : Nat} {a_p0 : Nat → Nat} {s_p0_finding : Int32} {s_p0_asked : Int64} {s_p0_newPoints : Int32} {s_p0_newLines : Int32} {s_p0_faultAt : Int64} {s_p0_tries : Int32} {s_p0_things : Int32} {s_p0_goals : Int32} {s_p0_level : Int32} {s_p0_lineCount : Nat → Int32} {s_p0_lines : Nat → Int64} {s_p0_points : Nat → Int32} {x_1 : Int32} {x_2 : Int32} {x_3 : Int32} {x_4 : Int32} {K_86 : (Int32) → Prop} {K_94 : (Int32) → Prop} {Q : Int32 → (Int64) → Prop} (X : vX E cX7_faultOf 7 RX7 wsX7_faultOf (vT T) (vr 1 23)) (r : r_X7_faultOf E T o_p0 a_p0 s_p0_finding s_p0_asked s_p0_newPoints s_p0_newLines s_p0_tries s_p0_things s_p0_goals s_p0_level s_p0_lineCount s_p0_lines s_p0_points Q) (hK_86 : ∀ (x_3' : Int32), K_86 x_3' → V E 0 0 86 [(0, .ref o_p0), (1, .int x_1), (2, .int x_2), (3, .int x_3')] [] (cl_X7_faultOf T o_p0 a_p0 s_p0_finding s_p0_asked s_p0_newPoints s_p0_newLines s_p0_faultAt s_p0_tries s_p0_things s_p0_goals s_p0_level s_p0_lineCount s_p0_lines s_p0_points)) (hK_94 : ∀ (x_4' : Int32), K_94 x_4' → V E 0 0 94 [(0, .ref o_p0), (1, .int x_1), (2, .int x_2), (3, .int x_3), (4, .int x_4')] [] (cl_X7_faultOf T o_p0 a_p0 s_p0_finding s_p0_asked s_p0_newPoints s_p0_newLines s_p0_faultAt s_p0_tries s_p0_things s_p0_goals s_p0_level s_p0_lineCount s_p0_lines s_p0_points)) : ∀ (n_ : Nat) (x_5 : Int32) (x_6 : Int32), w_X7_faultOf_111 x_1 x_2 x_3 x_4 s_p0_faultAt s_p0_lineCount s_p0_lines s_p0_points K_86 K_94 Q n_ x_5 x_6 → V E 0 0 111 [(0, .ref o_p0), (1, .int x_1), (2, .int x_2), (3, .int x_3), (4, .int x_4), (5, .int x_5), (6, .int x_6)] [] (cl_X7_faultOf T o_p0 a_p0 s_p0_finding s_p0_asked s_p0_newPoints s_p0_newLines s_p0_faultAt s_p0_tries s_p0_things s_p0_goals s_p0_level s_p0_lineCount s_p0_lines s_p0_points) := by
  intro n_
  induction n_ with
  | zero => intro x_5 x_6 h; exact h.elim
  | succ n_ hK_111 =>
    intro x_5 x_6 h
    replace h : w_X7_faultOf_111s x_1 x_2 x_3 x_4 s_p0_faultAt s_p0_lineCount s_p0_lines s_p0_points K_86 K_94 Q (w_X7_faultOf_111 x_1 x_2 x_3 x_4 s_p0_faultAt s_p0_lineCount s_p0_lines s_p0_points K_86 K_94 Q n_) x_5 x_6 := h
    unfold w_X7_faultOf_111s at h
    refine v_iload X 6 dX7_faultOf_111 rfl ?_
    refine v_iload_n X 2 dX7_faultOf_113 rfl rfl ?_
    refine v_icmp_ge X (tgt := 201) dX7_faultOf_114 (by decide) (fun c_114 => ?_) (fun c_114 => ?_)
    · replace h := h.1 c_114
      refine v_lv (lv' := [(0, .ref o_p0), (1, .int x_1), (2, .int x_2), (3, .int x_3), (4, .int x_4), (5, .int x_5)]) [0, 1, 2, 3, 4, 5] rfl ?_
      exact k_X7_faultOf_201 X r hK_86 hK_94 h
    · replace h := h.2 c_114
      refine v_aload_n X 0 dX7_faultOf_117 rfl rfl ?_
      refine v_get X 0 7 (F := TX7) (N := 33) iX7_faultOf_X7 rfl rfl (by decide) (List.mem_of_getElem? (i := 2) rfl) rfl rfl dX7_faultOf_118 ?_
      refine v_bipush X dX7_faultOf_121 (v := (45 : Int32)) (by decide) ?_
      refine v_iload_n X 1 dX7_faultOf_123 rfl rfl ?_
      refine v_imul X dX7_faultOf_124 ?_
      refine v_iload_n X 3 dX7_faultOf_125 rfl rfl ?_
      refine v_iadd X dX7_faultOf_126 ?_
      refine v_lald X 2 1 rfl rfl h.1 dX7_faultOf_127 ?_
      replace h := h.2
      refine v_iload X 4 dX7_faultOf_128 rfl ?_
      refine v_callSi0 X (As := [.long (s_p0_lines ((((45 : Int32) * x_1) + x_3)).toNatClampNeg), .int x_4]) (rest := []) 2 (c_X7_has (l := vl E) (D := vD E) (T := T) (x_0 := (s_p0_lines ((((45 : Int32) * x_1) + x_3)).toNatClampNeg)) (x_2 := x_4) h) gX7_faultOf_X7_has rfl rfl (by decide +kernel) ⟨Nat.zero_le _, Nat.zero_le _⟩ ⟨rfl, rfl, by decide, by decide⟩ (Nat.le_of_ble_eq_true rfl) rfl dX7_faultOf_130 (fun r_130 h => ?_)
      refine v_if_ne X (tgt := 201) dX7_faultOf_133 (by decide) (fun c_133 => ?_) (fun c_133 => ?_)
      · replace h := h.1 c_133
        refine v_lv (lv' := [(0, .ref o_p0), (1, .int x_1), (2, .int x_2), (3, .int x_3), (4, .int x_4), (5, .int x_5)]) [0, 1, 2, 3, 4, 5] rfl ?_
        exact k_X7_faultOf_201 X r hK_86 hK_94 h
      · replace h := h.2 c_133
        refine v_iload X 5 dX7_faultOf_136 rfl ?_
        refine v_aload_n X 0 dX7_faultOf_138 rfl rfl ?_
        refine v_get X 0 7 (F := TX7) (N := 33) iX7_faultOf_X7 rfl rfl (by decide) (List.mem_of_getElem? (i := 2) rfl) rfl rfl dX7_faultOf_139 ?_
        refine v_bipush X dX7_faultOf_142 (v := (45 : Int32)) (by decide) ?_
        refine v_iload_n X 1 dX7_faultOf_144 rfl rfl ?_
        refine v_imul X dX7_faultOf_145 ?_
        refine v_iload X 6 dX7_faultOf_146 rfl ?_
        refine v_iadd X dX7_faultOf_148 ?_
        refine v_lald X 2 1 rfl rfl h.1 dX7_faultOf_149 ?_
        replace h := h.2
        refine v_iload X 4 dX7_faultOf_150 rfl ?_
        refine v_callSi0 X (As := [.long (s_p0_lines ((((45 : Int32) * x_1) + x_6)).toNatClampNeg), .int x_4]) (rest := [.int x_5]) 2 (c_X7_has (l := vl E) (D := vD E) (T := T) (x_0 := (s_p0_lines ((((45 : Int32) * x_1) + x_6)).toNatClampNeg)) (x_2 := x_4) h) gX7_faultOf_X7_has rfl rfl (by decide +kernel) ⟨Nat.zero_le _, Nat.zero_le _⟩ ⟨rfl, rfl, by decide, by decide⟩ (Nat.le_of_ble_eq_true rfl) rfl dX7_faultOf_152 (fun r_152 h => ?_)
        refine v_if_eq X (tgt := 191) dX7_faultOf_155 (by decide) (fun c_155 => ?_) (fun c_155 => ?_)
        · replace h := h.1 c_155
          refine v_lv (lv' := [(0, .ref o_p0), (1, .int x_1), (2, .int x_2), (3, .int x_3), (4, .int x_4), (6, .int x_6)]) [0, 1, 2, 3, 4, 6] rfl ?_
          exact k_X7_faultOf_191 X r hK_86 hK_94 hK_111 h
        · replace h := h.2 c_155
          refine v_aload_n X 0 dX7_faultOf_158 rfl rfl ?_
          refine v_get X 0 7 (F := TX7) (N := 33) iX7_faultOf_X7 rfl rfl (by decide) (List.mem_of_getElem? (i := 2) rfl) rfl rfl dX7_faultOf_159 ?_
          refine v_bipush X dX7_faultOf_162 (v := (45 : Int32)) (by decide) ?_
          refine v_iload_n X 1 dX7_faultOf_164 rfl rfl ?_
          refine v_imul X dX7_faultOf_165 ?_
          refine v_iload X 6 dX7_faultOf_166 rfl ?_
          refine v_iadd X dX7_faultOf_168 ?_
          refine v_lald X 2 1 rfl rfl h.1 dX7_faultOf_169 ?_
          replace h := h.2
          refine v_aload_n X 0 dX7_faultOf_170 rfl rfl ?_
          refine v_get X 0 7 (F := TX7) (N := 33) iX7_faultOf_X7 rfl rfl (by decide) (List.mem_of_getElem? (i := 2) rfl) rfl rfl dX7_faultOf_171 ?_
          refine v_bipush X dX7_faultOf_174 (v := (45 : Int32)) (by decide) ?_
          refine v_iload_n X 1 dX7_faultOf_176 rfl rfl ?_
          refine v_imul X dX7_faultOf_177 ?_
          refine v_iload_n X 3 dX7_faultOf_178 rfl rfl ?_
          refine v_iadd X dX7_faultOf_179 ?_
          refine v_lald X 2 1 rfl rfl h.1 dX7_faultOf_180 ?_
          replace h := h.2
          refine v_land X dX7_faultOf_181 ?_
          refine v_lconst X dX7_faultOf_182 (v := (0 : Int64)) (by decide) ?_
          refine v_lcmp X dX7_faultOf_183 ?_
          refine v_if_eq X (tgt := 191) dX7_faultOf_184 (by decide) (fun c_184 => ?_) (fun c_184 => ?_)
          · replace h := h.1 c_184
            refine v_lv (lv' := [(0, .ref o_p0), (1, .int x_1), (2, .int x_2), (3, .int x_3), (4, .int x_4), (6, .int x_6)]) [0, 1, 2, 3, 4, 6] rfl ?_
            exact k_X7_faultOf_191 X r hK_86 hK_94 hK_111 h
          · replace h := h.2 c_184
            refine v_iconst X dX7_faultOf_187 (v := (1 : Int32)) (by decide) ?_
            refine v_goto X (tgt := 192) dX7_faultOf_188 (by decide) ?_
            refine v_lv (lv' := [(0, .ref o_p0), (1, .int x_1), (2, .int x_2), (3, .int x_3), (4, .int x_4), (6, .int x_6)]) [0, 1, 2, 3, 4, 6] rfl ?_
            exact k_X7_faultOf_192 X r hK_86 hK_94 hK_111 h
set_option maxHeartbeats 4000000 in
set_option maxRecDepth 100000 in
theorem k_X7_faultOf_94 {E : vE} {T : Nat → ClassId} {o_p0 : Nat} {a_p0 : Nat → Nat} {s_p0_finding : Int32} {s_p0_asked : Int64} {s_p0_newPoints : Int32} {s_p0_newLines : Int32} {s_p0_faultAt : Int64} {s_p0_tries : Int32} {s_p0_things : Int32} {s_p0_goals : Int32} {s_p0_level : Int32} {s_p0_lineCount : Nat → Int32} {s_p0_lines : Nat → Int64} {s_p0_points : Nat → Int32} {x_1 : Int32} {x_2 : Int32} {x_3 : Int32} {K_86 : (Int32) → Prop} {Q : Int32 → (Int64) → Prop} (X : vX E cX7_faultOf 7 RX7 wsX7_faultOf (vT T) (vr 1 23)) (r : r_X7_faultOf E T o_p0 a_p0 s_p0_finding s_p0_asked s_p0_newPoints s_p0_newLines s_p0_tries s_p0_things s_p0_goals s_p0_level s_p0_lineCount s_p0_lines s_p0_points Q) (hK_86 : ∀ (x_3' : Int32), K_86 x_3' → V E 0 0 86 [(0, .ref o_p0), (1, .int x_1), (2, .int x_2), (3, .int x_3')] [] (cl_X7_faultOf T o_p0 a_p0 s_p0_finding s_p0_asked s_p0_newPoints s_p0_newLines s_p0_faultAt s_p0_tries s_p0_things s_p0_goals s_p0_level s_p0_lineCount s_p0_lines s_p0_points)) : ∀ (n_ : Nat) (x_4 : Int32), w_X7_faultOf_94 x_1 x_2 x_3 s_p0_faultAt s_p0_lineCount s_p0_lines s_p0_points K_86 Q n_ x_4 → V E 0 0 94 [(0, .ref o_p0), (1, .int x_1), (2, .int x_2), (3, .int x_3), (4, .int x_4)] [] (cl_X7_faultOf T o_p0 a_p0 s_p0_finding s_p0_asked s_p0_newPoints s_p0_newLines s_p0_faultAt s_p0_tries s_p0_things s_p0_goals s_p0_level s_p0_lineCount s_p0_lines s_p0_points) := by
  intro n_
  induction n_ with
  | zero => intro x_4 h; exact h.elim
  | succ n_ hK_94 =>
    intro x_4 h
    replace h : w_X7_faultOf_94s x_1 x_2 x_3 s_p0_faultAt s_p0_lineCount s_p0_lines s_p0_points K_86 Q (w_X7_faultOf_94 x_1 x_2 x_3 s_p0_faultAt s_p0_lineCount s_p0_lines s_p0_points K_86 Q n_) x_4 := h
    unfold w_X7_faultOf_94s at h
    refine v_iload X 4 dX7_faultOf_94 rfl ?_
    refine v_aload_n X 0 dX7_faultOf_96 rfl rfl ?_
    refine v_get X 0 3 (F := TX7) (N := 33) iX7_faultOf_X7 rfl rfl (by decide) (List.mem_of_getElem? (i := 5) rfl) rfl rfl dX7_faultOf_97 ?_
    refine v_iload_n X 1 dX7_faultOf_100 rfl rfl ?_
    refine v_iald X 3 0 rfl rfl h.1 dX7_faultOf_101 ?_
    replace h := h.2
    refine v_icmp_ge X (tgt := 257) dX7_faultOf_102 (by decide) (fun c_102 => ?_) (fun c_102 => ?_)
    · replace h := h.1 c_102
      refine v_iinc X (v := (x_3 + (1 : Int32))) (lv' := [(3, .int (x_3 + (1 : Int32))), (0, .ref o_p0), (1, .int x_1), (2, .int x_2), (4, .int x_4)]) 3 dX7_faultOf_257 rfl rfl (by decide) rfl ?_
      refine v_goto X (tgt := 86) dX7_faultOf_260 (by decide) ?_
      refine v_lv (lv' := [(0, .ref o_p0), (1, .int x_1), (2, .int x_2), (3, .int (x_3 + (1 : Int32)))]) [1, 2, 3, 0] rfl ?_
      exact hK_86 _ h
    · replace h := h.2 c_102
      refine v_iconst X dX7_faultOf_105 (v := (0 : Int32)) (by decide) ?_
      refine v_istore X (lv' := [(5, .int (0 : Int32)), (0, .ref o_p0), (1, .int x_1), (2, .int x_2), (3, .int x_3), (4, .int x_4)]) dX7_faultOf_106 (by decide) rfl ?_
      refine v_iconst X dX7_faultOf_108 (v := (0 : Int32)) (by decide) ?_
      refine v_istore X (lv' := [(6, .int (0 : Int32)), (5, .int (0 : Int32)), (0, .ref o_p0), (1, .int x_1), (2, .int x_2), (3, .int x_3), (4, .int x_4)]) dX7_faultOf_109 (by decide) rfl ?_
      refine v_lv (lv' := [(0, .ref o_p0), (1, .int x_1), (2, .int x_2), (3, .int x_3), (4, .int x_4), (5, .int (0 : Int32)), (6, .int (0 : Int32))]) [2, 3, 4, 5, 6, 1, 0] rfl ?_
      obtain ⟨n_, h⟩ := h
      exact k_X7_faultOf_111 X r hK_86 hK_94 n_ _ _ h
set_option maxHeartbeats 4000000 in
set_option maxRecDepth 100000 in
theorem k_X7_faultOf_86 {E : vE} {T : Nat → ClassId} {o_p0 : Nat} {a_p0 : Nat → Nat} {s_p0_finding : Int32} {s_p0_asked : Int64} {s_p0_newPoints : Int32} {s_p0_newLines : Int32} {s_p0_faultAt : Int64} {s_p0_tries : Int32} {s_p0_things : Int32} {s_p0_goals : Int32} {s_p0_level : Int32} {s_p0_lineCount : Nat → Int32} {s_p0_lines : Nat → Int64} {s_p0_points : Nat → Int32} {x_1 : Int32} {x_2 : Int32} {Q : Int32 → (Int64) → Prop} (X : vX E cX7_faultOf 7 RX7 wsX7_faultOf (vT T) (vr 1 23)) (r : r_X7_faultOf E T o_p0 a_p0 s_p0_finding s_p0_asked s_p0_newPoints s_p0_newLines s_p0_tries s_p0_things s_p0_goals s_p0_level s_p0_lineCount s_p0_lines s_p0_points Q) : ∀ (n_ : Nat) (x_3 : Int32), w_X7_faultOf_86 x_1 x_2 s_p0_faultAt s_p0_lineCount s_p0_lines s_p0_points Q n_ x_3 → V E 0 0 86 [(0, .ref o_p0), (1, .int x_1), (2, .int x_2), (3, .int x_3)] [] (cl_X7_faultOf T o_p0 a_p0 s_p0_finding s_p0_asked s_p0_newPoints s_p0_newLines s_p0_faultAt s_p0_tries s_p0_things s_p0_goals s_p0_level s_p0_lineCount s_p0_lines s_p0_points) := by
  intro n_
  induction n_ with
  | zero => intro x_3 h; exact h.elim
  | succ n_ hK_86 =>
    intro x_3 h
    replace h : w_X7_faultOf_86s x_1 x_2 s_p0_faultAt s_p0_lineCount s_p0_lines s_p0_points Q (w_X7_faultOf_86 x_1 x_2 s_p0_faultAt s_p0_lineCount s_p0_lines s_p0_points Q n_) x_3 := h
    unfold w_X7_faultOf_86s at h
    refine v_iload_n X 3 dX7_faultOf_86 rfl rfl ?_
    refine v_iload_n X 2 dX7_faultOf_87 rfl rfl ?_
    refine v_icmp_ge X (tgt := 263) dX7_faultOf_88 (by decide) (fun c_88 => ?_) (fun c_88 => ?_)
    · replace h := h.1 c_88
      refine v_iconst X dX7_faultOf_263 (v := (0 : Int32)) (by decide) ?_
      exact r _ _ _ (s_p0_faultAt) _ dX7_faultOf_264 h rfl
    · replace h := h.2 c_88
      refine v_iconst X dX7_faultOf_91 (v := (0 : Int32)) (by decide) ?_
      refine v_istore X (lv' := [(4, .int (0 : Int32)), (0, .ref o_p0), (1, .int x_1), (2, .int x_2), (3, .int x_3)]) dX7_faultOf_92 (by decide) rfl ?_
      refine v_lv (lv' := [(0, .ref o_p0), (1, .int x_1), (2, .int x_2), (3, .int x_3), (4, .int (0 : Int32))]) [1, 2, 3, 4, 0] rfl ?_
      obtain ⟨n_, h⟩ := h
      exact k_X7_faultOf_94 X r hK_86 n_ _ h
set_option maxHeartbeats 4000000 in
set_option maxRecDepth 100000 in
theorem k_X7_faultOf_19 {E : vE} {T : Nat → ClassId} {o_p0 : Nat} {a_p0 : Nat → Nat} {s_p0_finding : Int32} {s_p0_asked : Int64} {s_p0_newPoints : Int32} {s_p0_newLines : Int32} {s_p0_faultAt : Int64} {s_p0_tries : Int32} {s_p0_things : Int32} {s_p0_goals : Int32} {s_p0_level : Int32} {s_p0_lineCount : Nat → Int32} {s_p0_lines : Nat → Int64} {s_p0_points : Nat → Int32} {x_1 : Int32} {x_2 : Int32} {x_3 : Int32} {K_9 : (Int32) → Prop} {Q : Int32 → (Int64) → Prop} (X : vX E cX7_faultOf 7 RX7 wsX7_faultOf (vT T) (vr 1 23)) (r : r_X7_faultOf E T o_p0 a_p0 s_p0_finding s_p0_asked s_p0_newPoints s_p0_newLines s_p0_tries s_p0_things s_p0_goals s_p0_level s_p0_lineCount s_p0_lines s_p0_points Q) (hK_9 : ∀ (x_3' : Int32), K_9 x_3' → V E 0 0 9 [(0, .ref o_p0), (1, .int x_1), (2, .int x_2), (3, .int x_3')] [] (cl_X7_faultOf T o_p0 a_p0 s_p0_finding s_p0_asked s_p0_newPoints s_p0_newLines s_p0_faultAt s_p0_tries s_p0_things s_p0_goals s_p0_level s_p0_lineCount s_p0_lines s_p0_points)) : ∀ (n_ : Nat) (x_4 : Int32), w_X7_faultOf_19 x_1 x_2 x_3 s_p0_faultAt s_p0_lineCount s_p0_lines s_p0_points K_9 Q n_ x_4 → V E 0 0 19 [(0, .ref o_p0), (1, .int x_1), (2, .int x_2), (3, .int x_3), (4, .int x_4)] [] (cl_X7_faultOf T o_p0 a_p0 s_p0_finding s_p0_asked s_p0_newPoints s_p0_newLines s_p0_faultAt s_p0_tries s_p0_things s_p0_goals s_p0_level s_p0_lineCount s_p0_lines s_p0_points) := by
  intro n_
  induction n_ with
  | zero => intro x_4 h; exact h.elim
  | succ n_ hK_19 =>
    intro x_4 h
    replace h : w_X7_faultOf_19s x_1 x_2 x_3 s_p0_faultAt s_p0_lineCount s_p0_lines s_p0_points K_9 Q (w_X7_faultOf_19 x_1 x_2 x_3 s_p0_faultAt s_p0_lineCount s_p0_lines s_p0_points K_9 Q n_) x_4 := h
    unfold w_X7_faultOf_19s at h
    refine v_iload X 4 dX7_faultOf_19 rfl ?_
    refine v_iload_n X 2 dX7_faultOf_21 rfl rfl ?_
    refine v_icmp_ge X (tgt := 78) dX7_faultOf_22 (by decide) (fun c_22 => ?_) (fun c_22 => ?_)
    · replace h := h.1 c_22
      refine v_iinc X (v := (x_3 + (1 : Int32))) (lv' := [(3, .int (x_3 + (1 : Int32))), (0, .ref o_p0), (1, .int x_1), (2, .int x_2), (4, .int x_4)]) 3 dX7_faultOf_78 rfl rfl (by decide) rfl ?_
      refine v_goto X (tgt := 9) dX7_faultOf_81 (by decide) ?_
      refine v_lv (lv' := [(0, .ref o_p0), (1, .int x_1), (2, .int x_2), (3, .int (x_3 + (1 : Int32)))]) [1, 2, 3, 0] rfl ?_
      exact hK_9 _ h
    · replace h := h.2 c_22
      refine v_aload_n X 0 dX7_faultOf_25 rfl rfl ?_
      refine v_get X 0 7 (F := TX7) (N := 33) iX7_faultOf_X7 rfl rfl (by decide) (List.mem_of_getElem? (i := 2) rfl) rfl rfl dX7_faultOf_26 ?_
      refine v_bipush X dX7_faultOf_29 (v := (45 : Int32)) (by decide) ?_
      refine v_iload_n X 1 dX7_faultOf_31 rfl rfl ?_
      refine v_imul X dX7_faultOf_32 ?_
      refine v_iload_n X 3 dX7_faultOf_33 rfl rfl ?_
      refine v_iadd X dX7_faultOf_34 ?_
      refine v_lald X 2 1 rfl rfl h.1 dX7_faultOf_35 ?_
      replace h := h.2
      refine v_aload_n X 0 dX7_faultOf_36 rfl rfl ?_
      refine v_get X 0 7 (F := TX7) (N := 33) iX7_faultOf_X7 rfl rfl (by decide) (List.mem_of_getElem? (i := 2) rfl) rfl rfl dX7_faultOf_37 ?_
      refine v_bipush X dX7_faultOf_40 (v := (45 : Int32)) (by decide) ?_
      refine v_iload_n X 1 dX7_faultOf_42 rfl rfl ?_
      refine v_imul X dX7_faultOf_43 ?_
      refine v_iload X 4 dX7_faultOf_44 rfl ?_
      refine v_iadd X dX7_faultOf_46 ?_
      refine v_lald X 2 1 rfl rfl h.1 dX7_faultOf_47 ?_
      replace h := h.2
      refine v_land X dX7_faultOf_48 ?_
      refine v_callSi0 X (As := [.long ((s_p0_lines ((((45 : Int32) * x_1) + x_3)).toNatClampNeg) &&& (s_p0_lines ((((45 : Int32) * x_1) + x_4)).toNatClampNeg))]) (rest := []) 1 (c_X7_bits (l := vl E) (D := vD E) (T := T) (x_0 := ((s_p0_lines ((((45 : Int32) * x_1) + x_3)).toNatClampNeg) &&& (s_p0_lines ((((45 : Int32) * x_1) + x_4)).toNatClampNeg))) h) gX7_faultOf_X7_bits rfl rfl (by decide +kernel) ⟨Nat.zero_le _, Nat.zero_le _⟩ ⟨rfl, rfl, by decide, by decide⟩ (Nat.le_of_ble_eq_true rfl) rfl dX7_faultOf_49 (fun r_49 h => ?_)
      refine v_iconst X dX7_faultOf_52 (v := (1 : Int32)) (by decide) ?_
      refine v_icmp_le X (tgt := 72) dX7_faultOf_53 (by decide) (fun c_53 => ?_) (fun c_53 => ?_)
      · replace h := h.1 c_53
        refine v_iinc X (v := (x_4 + (1 : Int32))) (lv' := [(4, .int (x_4 + (1 : Int32))), (0, .ref o_p0), (1, .int x_1), (2, .int x_2), (3, .int x_3)]) 4 dX7_faultOf_72 rfl rfl (by decide) rfl ?_
        refine v_goto X (tgt := 19) dX7_faultOf_75 (by decide) ?_
        refine v_lv (lv' := [(0, .ref o_p0), (1, .int x_1), (2, .int x_2), (3, .int x_3), (4, .int (x_4 + (1 : Int32)))]) [1, 2, 3, 4, 0] rfl ?_
        exact hK_19 _ h
      · replace h := h.2 c_53
        refine v_aload_n X 0 dX7_faultOf_56 rfl rfl ?_
        refine v_ldc2 X (v := (100 : Int64)) (List.mem_of_getElem? (i := 3) rfl) dX7_faultOf_57 ?_
        refine v_iload_n X 3 dX7_faultOf_60 rfl rfl ?_
        refine v_i2l X dX7_faultOf_61 ?_
        refine v_lmul X dX7_faultOf_62 ?_
        refine v_iload X 4 dX7_faultOf_63 rfl ?_
        refine v_i2l X dX7_faultOf_65 ?_
        refine v_ladd X dX7_faultOf_66 ?_
        refine v_put X (ws' := (cl_X7_faultOf T o_p0 a_p0 s_p0_finding s_p0_asked s_p0_newPoints s_p0_newLines (((100 : Int64) * (x_3).toInt64) + (x_4).toInt64) s_p0_tries s_p0_things s_p0_goals s_p0_level s_p0_lineCount s_p0_lines s_p0_points)) 0 12 (F := TX7) (N := 33) iX7_faultOf_X7 rfl tyX7 tyX7_ok nmX7 rfl (by decide) (List.mem_of_getElem? (i := 4) rfl) rfl rfl rfl rfl rfl (Nat.le_of_ble_eq_true rfl) rfl dX7_faultOf_67 ?_
        refine v_iconst X dX7_faultOf_70 (v := (1 : Int32)) (by decide) ?_
        exact r _ _ _ ((((100 : Int64) * (x_3).toInt64) + (x_4).toInt64)) _ dX7_faultOf_71 h rfl
set_option maxHeartbeats 4000000 in
set_option maxRecDepth 100000 in
theorem k_X7_faultOf_9 {E : vE} {T : Nat → ClassId} {o_p0 : Nat} {a_p0 : Nat → Nat} {s_p0_finding : Int32} {s_p0_asked : Int64} {s_p0_newPoints : Int32} {s_p0_newLines : Int32} {s_p0_faultAt : Int64} {s_p0_tries : Int32} {s_p0_things : Int32} {s_p0_goals : Int32} {s_p0_level : Int32} {s_p0_lineCount : Nat → Int32} {s_p0_lines : Nat → Int64} {s_p0_points : Nat → Int32} {x_1 : Int32} {x_2 : Int32} {Q : Int32 → (Int64) → Prop} (X : vX E cX7_faultOf 7 RX7 wsX7_faultOf (vT T) (vr 1 23)) (r : r_X7_faultOf E T o_p0 a_p0 s_p0_finding s_p0_asked s_p0_newPoints s_p0_newLines s_p0_tries s_p0_things s_p0_goals s_p0_level s_p0_lineCount s_p0_lines s_p0_points Q) : ∀ (n_ : Nat) (x_3 : Int32), w_X7_faultOf_9 x_1 x_2 s_p0_faultAt s_p0_lineCount s_p0_lines s_p0_points Q n_ x_3 → V E 0 0 9 [(0, .ref o_p0), (1, .int x_1), (2, .int x_2), (3, .int x_3)] [] (cl_X7_faultOf T o_p0 a_p0 s_p0_finding s_p0_asked s_p0_newPoints s_p0_newLines s_p0_faultAt s_p0_tries s_p0_things s_p0_goals s_p0_level s_p0_lineCount s_p0_lines s_p0_points) := by
  intro n_
  induction n_ with
  | zero => intro x_3 h; exact h.elim
  | succ n_ hK_9 =>
    intro x_3 h
    replace h : w_X7_faultOf_9s x_1 x_2 s_p0_faultAt s_p0_lineCount s_p0_lines s_p0_points Q (w_X7_faultOf_9 x_1 x_2 s_p0_faultAt s_p0_lineCount s_p0_lines s_p0_points Q n_) x_3 := h
    unfold w_X7_faultOf_9s at h
    refine v_iload_n X 3 dX7_faultOf_9 rfl rfl ?_
    refine v_iload_n X 2 dX7_faultOf_10 rfl rfl ?_
    refine v_icmp_ge X (tgt := 84) dX7_faultOf_11 (by decide) (fun c_11 => ?_) (fun c_11 => ?_)
    · replace h := h.1 c_11
      refine v_iconst X dX7_faultOf_84 (v := (0 : Int32)) (by decide) ?_
      refine v_istore_n X (lv' := [(3, .int (0 : Int32)), (0, .ref o_p0), (1, .int x_1), (2, .int x_2)]) dX7_faultOf_85 rfl (by decide) rfl ?_
      refine v_lv (lv' := [(0, .ref o_p0), (1, .int x_1), (2, .int x_2), (3, .int (0 : Int32))]) [1, 2, 3, 0] rfl ?_
      obtain ⟨n_, h⟩ := h
      exact k_X7_faultOf_86 X r n_ _ h
    · replace h := h.2 c_11
      refine v_iload_n X 3 dX7_faultOf_14 rfl rfl ?_
      refine v_iconst X dX7_faultOf_15 (v := (1 : Int32)) (by decide) ?_
      refine v_iadd X dX7_faultOf_16 ?_
      refine v_istore X (lv' := [(4, .int (x_3 + (1 : Int32))), (0, .ref o_p0), (1, .int x_1), (2, .int x_2), (3, .int x_3)]) dX7_faultOf_17 (by decide) rfl ?_
      refine v_lv (lv' := [(0, .ref o_p0), (1, .int x_1), (2, .int x_2), (3, .int x_3), (4, .int (x_3 + (1 : Int32)))]) [1, 2, 3, 4, 0] rfl ?_
      obtain ⟨n_, h⟩ := h
      exact k_X7_faultOf_19 X r hK_9 n_ _ h
set_option maxHeartbeats 4000000 in
set_option maxRecDepth 100000 in
theorem c_X7_faultOf {l : Launch} {D : va_G} {T : Nat → ClassId} {o_p0 : Nat} {a_p0 : Nat → Nat} {s_p0_finding : Int32} {s_p0_asked : Int64} {s_p0_newPoints : Int32} {s_p0_newLines : Int32} {s_p0_faultAt : Int64} {s_p0_tries : Int32} {s_p0_things : Int32} {s_p0_goals : Int32} {s_p0_level : Int32} {s_p0_lineCount : Nat → Int32} {s_p0_lines : Nat → Int64} {s_p0_points : Nat → Int32} {x_1 : Int32} {Q : Int32 → (Int64) → Prop} (h : w_X7_faultOf x_1 s_p0_faultAt s_p0_lineCount s_p0_lines s_p0_points Q) : vCi l D (vT T) yX7_faultOf wsX7_faultOf (vr 1 23) [.ref o_p0, .int x_1] (cl_X7_faultOf T o_p0 a_p0 s_p0_finding s_p0_asked s_p0_newPoints s_p0_newLines s_p0_faultAt s_p0_tries s_p0_things s_p0_goals s_p0_level s_p0_lineCount s_p0_lines s_p0_points) (fun v (u : (Int64)) => Q v u) (fun (u : (Int64)) => (cl_X7_faultOf T o_p0 a_p0 s_p0_finding s_p0_asked s_p0_newPoints s_p0_newLines u s_p0_tries s_p0_things s_p0_goals s_p0_level s_p0_lineCount s_p0_lines s_p0_points)) := by
  refine vC_i (cc := cX7_faultOf) (nL := 7) (by decide +kernel) rfl ⟨rfl, rfl⟩ (Nat.le_of_ble_eq_true rfl) rfl ?_
  intro E el eD X r
  unfold w_X7_faultOf at h
  refine v_aload_n X 0 dX7_faultOf_0 rfl rfl ?_
  refine v_get X 0 4 (F := TX7) (N := 33) iX7_faultOf_X7 rfl rfl (by decide) (List.mem_of_getElem? (i := 1) rfl) rfl rfl dX7_faultOf_1 ?_
  refine v_iload_n X 1 dX7_faultOf_4 rfl rfl ?_
  refine v_iald X 1 0 rfl rfl h.1 dX7_faultOf_5 ?_
  replace h := h.2
  refine v_istore_n X (lv' := [(2, .int (s_p0_lineCount (x_1).toNatClampNeg)), (0, .ref o_p0), (1, .int x_1)]) dX7_faultOf_6 rfl (by decide) rfl ?_
  refine v_iconst X dX7_faultOf_7 (v := (0 : Int32)) (by decide) ?_
  refine v_istore_n X (lv' := [(3, .int (0 : Int32)), (2, .int (s_p0_lineCount (x_1).toNatClampNeg)), (0, .ref o_p0), (1, .int x_1)]) dX7_faultOf_8 rfl (by decide) rfl ?_
  refine v_lv (lv' := [(0, .ref o_p0), (1, .int x_1), (2, .int (s_p0_lineCount (x_1).toNatClampNeg)), (3, .int (0 : Int32))]) [2, 3, 1, 0] rfl ?_
  obtain ⟨n_, h⟩ := h
  exact k_X7_faultOf_9 X r n_ _ h
-- X7_closed
abbrev cl_X7_closed (T : Nat → ClassId) : va_W := []
abbrev r_X7_closed (E : vE) (T : Nat → ClassId) (Q : Int64 → Prop) : Prop := vRl E cX7_closed (fun v (u : Unit) => Q v) (fun (u : Unit) => (cl_X7_closed T))
def w_X7_closed_50 (x_0 : Int64) (x_2 : Int64) (x_4 : Int64) (x_6 : Int32) (x_7 : Int32) (K_9 : (Int64) → (Int32) → (Int32) → Prop) (Q : Int64 → Prop) : Prop := (K_9 x_4 x_6 (x_7 + (1 : Int32)))
def w_X7_closed_44 (x_0 : Int64) (x_2 : Int64) (x_6 : Int32) (x_7 : Int32) (t_0 : Int64) (t_1 : Int64) (K_9 : (Int64) → (Int32) → (Int32) → Prop) (Q : Int64 → Prop) : Prop := (w_X7_closed_50 x_0 x_2 (t_0 ||| t_1) (x_6 + (1 : Int32)) x_7 K_9 Q)
def w_X7_closed_9s (x_0 : Int64) (x_2 : Int64) (Q : Int64 → Prop) (K_9 : (Int64) → (Int32) → (Int32) → Prop) (x_4 : Int64) (x_6 : Int32) (x_7 : Int32) : Prop := (((45 : Int32) ≤ x_7 → (Q x_4)) ∧ (¬ (45 : Int32) ≤ x_7 → (w_X7_has x_2 x_7 (fun (r_19 : Int32) => ((r_19 = 0 → (w_X7_closed_50 x_0 x_2 x_4 x_6 x_7 K_9 Q)) ∧ (¬ r_19 = 0 → (w_X7_has x_0 x_7 (fun (r_30 : Int32) => ((r_30 = 0 → (w_X7_closed_44 x_0 x_2 x_6 x_7 x_4 (0 : Int64) K_9 Q)) ∧ (¬ r_30 = 0 → (w_X7_closed_44 x_0 x_2 x_6 x_7 x_4 (vshl (1 : Int64) x_6) K_9 Q)))))))))))
def w_X7_closed_9 (x_0 : Int64) (x_2 : Int64) (Q : Int64 → Prop) : Nat → (Int64) → (Int32) → (Int32) → Prop
  | 0 => fun _ _ _ => False
  | n_ + 1 => w_X7_closed_9s x_0 x_2 Q (w_X7_closed_9 x_0 x_2 Q n_)
def w_X7_closed (x_0 : Int64) (x_2 : Int64) (Q : Int64 → Prop) : Prop := (∃ n_, w_X7_closed_9 x_0 x_2 Q n_ (0 : Int64) (0 : Int32) (0 : Int32))
-- X7_closed
set_option maxHeartbeats 4000000 in
set_option maxRecDepth 100000 in
theorem k_X7_closed_50 {E : vE} {T : Nat → ClassId} {x_0 : Int64} {x_2 : Int64} {x_4 : Int64} {x_6 : Int32} {x_7 : Int32} {K_9 : (Int64) → (Int32) → (Int32) → Prop} {Q : Int64 → Prop} (X : vX E cX7_closed 8 RX7 wsX7_closed (vT T) (vr 1 22)) (r : r_X7_closed E T Q) (hK_9 : ∀ (x_4' : Int64) (x_6' : Int32) (x_7' : Int32), K_9 x_4' x_6' x_7' → V E 0 0 9 [(0, .long x_0), (2, .long x_2), (4, .long x_4'), (6, .int x_6'), (7, .int x_7')] [] (cl_X7_closed T)) (h : w_X7_closed_50 x_0 x_2 x_4 x_6 x_7 K_9 Q) : V E 0 0 50 [(0, .long x_0), (2, .long x_2), (4, .long x_4), (6, .int x_6), (7, .int x_7)] [] (cl_X7_closed T) := by
  unfold w_X7_closed_50 at h
  refine v_iinc X (v := (x_7 + (1 : Int32))) (lv' := [(7, .int (x_7 + (1 : Int32))), (0, .long x_0), (2, .long x_2), (4, .long x_4), (6, .int x_6)]) 4 dX7_closed_50 rfl rfl (by decide) rfl ?_
  refine v_goto X (tgt := 9) dX7_closed_53 (by decide) ?_
  refine v_lv (lv' := [(0, .long x_0), (2, .long x_2), (4, .long x_4), (6, .int x_6), (7, .int (x_7 + (1 : Int32)))]) [1, 2, 3, 4, 0] rfl ?_
  exact hK_9 _ _ _ h
set_option maxHeartbeats 4000000 in
set_option maxRecDepth 100000 in
theorem k_X7_closed_44 {E : vE} {T : Nat → ClassId} {x_0 : Int64} {x_2 : Int64} {x_6 : Int32} {x_7 : Int32} {t_0 : Int64} {t_1 : Int64} {K_9 : (Int64) → (Int32) → (Int32) → Prop} {Q : Int64 → Prop} (X : vX E cX7_closed 8 RX7 wsX7_closed (vT T) (vr 1 22)) (r : r_X7_closed E T Q) (hK_9 : ∀ (x_4' : Int64) (x_6' : Int32) (x_7' : Int32), K_9 x_4' x_6' x_7' → V E 0 0 9 [(0, .long x_0), (2, .long x_2), (4, .long x_4'), (6, .int x_6'), (7, .int x_7')] [] (cl_X7_closed T)) (h : w_X7_closed_44 x_0 x_2 x_6 x_7 t_0 t_1 K_9 Q) : V E 0 0 44 [(0, .long x_0), (2, .long x_2), (6, .int x_6), (7, .int x_7)] [.long t_1, .long t_0] (cl_X7_closed T) := by
  unfold w_X7_closed_44 at h
  refine v_lor X dX7_closed_44 ?_
  refine v_lstore X (lv' := [(4, .long (t_0 ||| t_1)), (0, .long x_0), (2, .long x_2), (6, .int x_6), (7, .int x_7)]) dX7_closed_45 (by decide) rfl ?_
  refine v_iinc X (v := (x_6 + (1 : Int32))) (lv' := [(6, .int (x_6 + (1 : Int32))), (4, .long (t_0 ||| t_1)), (0, .long x_0), (2, .long x_2), (7, .int x_7)]) 3 dX7_closed_47 rfl rfl (by decide) rfl ?_
  refine v_lv (lv' := [(0, .long x_0), (2, .long x_2), (4, .long (t_0 ||| t_1)), (6, .int (x_6 + (1 : Int32))), (7, .int x_7)]) [2, 3, 1, 0, 4] rfl ?_
  exact k_X7_closed_50 X r hK_9 h
set_option maxHeartbeats 4000000 in
set_option maxRecDepth 100000 in
theorem k_X7_closed_9 {E : vE} {T : Nat → ClassId} {x_0 : Int64} {x_2 : Int64} {Q : Int64 → Prop} (X : vX E cX7_closed 8 RX7 wsX7_closed (vT T) (vr 1 22)) (r : r_X7_closed E T Q) : ∀ (n_ : Nat) (x_4 : Int64) (x_6 : Int32) (x_7 : Int32), w_X7_closed_9 x_0 x_2 Q n_ x_4 x_6 x_7 → V E 0 0 9 [(0, .long x_0), (2, .long x_2), (4, .long x_4), (6, .int x_6), (7, .int x_7)] [] (cl_X7_closed T) := by
  intro n_
  induction n_ with
  | zero => intro x_4 x_6 x_7 h; exact h.elim
  | succ n_ hK_9 =>
    intro x_4 x_6 x_7 h
    replace h : w_X7_closed_9s x_0 x_2 Q (w_X7_closed_9 x_0 x_2 Q n_) x_4 x_6 x_7 := h
    unfold w_X7_closed_9s at h
    refine v_iload X 4 dX7_closed_9 rfl ?_
    refine v_bipush X dX7_closed_11 (v := (45 : Int32)) (by decide) ?_
    refine v_icmp_ge X (tgt := 56) dX7_closed_13 (by decide) (fun c_13 => ?_) (fun c_13 => ?_)
    · replace h := h.1 c_13
      refine v_lload X 2 dX7_closed_56 rfl ?_
      exact r _ _ _ () _ dX7_closed_58 h rfl
    · replace h := h.2 c_13
      refine v_lload_n X 1 dX7_closed_16 rfl rfl ?_
      refine v_iload X 4 dX7_closed_17 rfl ?_
      refine v_callSi0 X (As := [.long x_2, .int x_7]) (rest := []) 2 (c_X7_has (l := vl E) (D := vD E) (T := T) (x_0 := x_2) (x_2 := x_7) h) gX7_closed_X7_has rfl rfl (by decide +kernel) ⟨Nat.zero_le _, Nat.zero_le _⟩ ⟨rfl, rfl, by decide, by decide⟩ (Nat.le_of_ble_eq_true rfl) rfl dX7_closed_19 (fun r_19 h => ?_)
      refine v_if_eq X (tgt := 50) dX7_closed_22 (by decide) (fun c_22 => ?_) (fun c_22 => ?_)
      · replace h := h.1 c_22
        exact k_X7_closed_50 X r hK_9 h
      · replace h := h.2 c_22
        refine v_lload X 2 dX7_closed_25 rfl ?_
        refine v_lload_n X 0 dX7_closed_27 rfl rfl ?_
        refine v_iload X 4 dX7_closed_28 rfl ?_
        refine v_callSi0 X (As := [.long x_0, .int x_7]) (rest := [.long x_4]) 2 (c_X7_has (l := vl E) (D := vD E) (T := T) (x_0 := x_0) (x_2 := x_7) h) gX7_closed_X7_has rfl rfl (by decide +kernel) ⟨Nat.zero_le _, Nat.zero_le _⟩ ⟨rfl, rfl, by decide, by decide⟩ (Nat.le_of_ble_eq_true rfl) rfl dX7_closed_30 (fun r_30 h => ?_)
        refine v_if_eq X (tgt := 43) dX7_closed_33 (by decide) (fun c_33 => ?_) (fun c_33 => ?_)
        · replace h := h.1 c_33
          refine v_lconst X dX7_closed_43 (v := (0 : Int64)) (by decide) ?_
          refine v_lv (lv' := [(0, .long x_0), (2, .long x_2), (6, .int x_6), (7, .int x_7)]) [0, 1, 3, 4] rfl ?_
          exact k_X7_closed_44 X r hK_9 h
        · replace h := h.2 c_33
          refine v_lconst X dX7_closed_36 (v := (1 : Int64)) (by decide) ?_
          refine v_iload X 3 dX7_closed_37 rfl ?_
          refine v_lshl X dX7_closed_39 ?_
          refine v_goto X (tgt := 44) dX7_closed_40 (by decide) ?_
          refine v_lv (lv' := [(0, .long x_0), (2, .long x_2), (6, .int x_6), (7, .int x_7)]) [0, 1, 3, 4] rfl ?_
          exact k_X7_closed_44 X r hK_9 h
set_option maxHeartbeats 4000000 in
set_option maxRecDepth 100000 in
theorem c_X7_closed {l : Launch} {D : va_G} {T : Nat → ClassId} {x_0 : Int64} {x_2 : Int64} {Q : Int64 → Prop} (h : w_X7_closed x_0 x_2 Q) : vCl l D (vT T) yX7_closed wsX7_closed (vr 1 22) [.long x_0, .long x_2] (cl_X7_closed T) (fun v (u : Unit) => Q v) (fun (u : Unit) => (cl_X7_closed T)) := by
  refine vC_l (cc := cX7_closed) (nL := 8) (by decide +kernel) rfl ⟨rfl, rfl⟩ (Nat.le_of_ble_eq_true rfl) rfl ?_
  intro E el eD X r
  unfold w_X7_closed at h
  refine v_lconst X dX7_closed_0 (v := (0 : Int64)) (by decide) ?_
  refine v_lstore X (lv' := [(4, .long (0 : Int64)), (0, .long x_0), (2, .long x_2)]) dX7_closed_1 (by decide) rfl ?_
  refine v_iconst X dX7_closed_3 (v := (0 : Int32)) (by decide) ?_
  refine v_istore X (lv' := [(6, .int (0 : Int32)), (4, .long (0 : Int64)), (0, .long x_0), (2, .long x_2)]) dX7_closed_4 (by decide) rfl ?_
  refine v_iconst X dX7_closed_6 (v := (0 : Int32)) (by decide) ?_
  refine v_istore X (lv' := [(7, .int (0 : Int32)), (6, .int (0 : Int32)), (4, .long (0 : Int64)), (0, .long x_0), (2, .long x_2)]) dX7_closed_7 (by decide) rfl ?_
  refine v_lv (lv' := [(0, .long x_0), (2, .long x_2), (4, .long (0 : Int64)), (6, .int (0 : Int32)), (7, .int (0 : Int32))]) [3, 4, 2, 1, 0] rfl ?_
  obtain ⟨n_, h⟩ := h
  exact k_X7_closed_9 X r n_ _ _ _ h
-- X7_derive
abbrev cl_X7_derive (T : Nat → ClassId) (o_p0 : Nat) (a_p0 : Nat → Nat) (s_p0_finding : Int32) (s_p0_asked : Int64) (s_p0_newPoints : Int32) (s_p0_newLines : Int32) (s_p0_faultAt : Int64) (s_p0_tries : Int32) (s_p0_things : Int32) (s_p0_goals : Int32) (s_p0_level : Int32) (s_p0_findings : Nat → Int32) (s_p0_kinds : Nat → Int32) (s_p0_lineCount : Nat → Int32) (s_p0_lines : Nat → Int64) (s_p0_marks : Nat → Int32) (s_p0_newRow : Nat → Int64) (s_p0_points : Nat → Int32) : va_W := [vO o_p0 4 [.int s_p0_finding, .ref (a_p0 1), .long s_p0_asked, .ref (a_p0 3), .ref (a_p0 4), .ref (a_p0 5), .ref (a_p0 6), .ref (a_p0 7), .int s_p0_newPoints, .int s_p0_newLines, .ref (a_p0 10), .ref (a_p0 11), .long s_p0_faultAt, .int s_p0_tries, .int s_p0_things, .int s_p0_goals, .ref (a_p0 16), .ref (a_p0 17), .ref (a_p0 18), .ref (a_p0 19), .ref (a_p0 20), .ref (a_p0 21), .int s_p0_level, .ref (a_p0 23), .ref (a_p0 24), .ref (a_p0 25), .ref (a_p0 26), .ref (a_p0 27), .ref (a_p0 28), .ref (a_p0 29), .ref (a_p0 30), .ref (a_p0 31), .ref (a_p0 32)], vI T (a_p0 1) 6 s_p0_findings, vI T (a_p0 5) 6 s_p0_kinds, vI T (a_p0 4) 6 s_p0_lineCount, vJ T (a_p0 7) 270 s_p0_lines, vI T (a_p0 6) 6 s_p0_marks, vJ T (a_p0 10) 120 s_p0_newRow, vI T (a_p0 3) 6 s_p0_points]
abbrev r_X7_derive (E : vE) (T : Nat → ClassId) (o_p0 : Nat) (a_p0 : Nat → Nat) (s_p0_asked : Int64) (s_p0_tries : Int32) (s_p0_things : Int32) (s_p0_goals : Int32) (s_p0_level : Int32) (Q : Int32 → (Int32) → (Int32) → (Int32) → (Int64) → (Nat → Int32) → (Nat → Int32) → (Nat → Int32) → (Nat → Int64) → (Nat → Int32) → (Nat → Int64) → (Nat → Int32) → Prop) : Prop := vRi E cX7_derive (fun v (u : (Int32) × (Int32) × (Int32) × (Int64) × (Nat → Int32) × (Nat → Int32) × (Nat → Int32) × (Nat → Int64) × (Nat → Int32) × (Nat → Int64) × (Nat → Int32)) => Q v u.1 u.2.1 u.2.2.1 u.2.2.2.1 u.2.2.2.2.1 u.2.2.2.2.2.1 u.2.2.2.2.2.2.1 u.2.2.2.2.2.2.2.1 u.2.2.2.2.2.2.2.2.1 u.2.2.2.2.2.2.2.2.2.1 u.2.2.2.2.2.2.2.2.2.2) (fun (u : (Int32) × (Int32) × (Int32) × (Int64) × (Nat → Int32) × (Nat → Int32) × (Nat → Int32) × (Nat → Int64) × (Nat → Int32) × (Nat → Int64) × (Nat → Int32)) => (cl_X7_derive T o_p0 a_p0 u.1 s_p0_asked u.2.1 u.2.2.1 u.2.2.2.1 s_p0_tries s_p0_things s_p0_goals s_p0_level u.2.2.2.2.1 u.2.2.2.2.2.1 u.2.2.2.2.2.2.1 u.2.2.2.2.2.2.2.1 u.2.2.2.2.2.2.2.2.1 u.2.2.2.2.2.2.2.2.2.1 u.2.2.2.2.2.2.2.2.2.2))
def w_X7_derive_285 (t_0 : Int32) (s_p0_finding : Int32) (s_p0_newPoints : Int32) (s_p0_newLines : Int32) (s_p0_faultAt : Int64) (s_p0_findings : Nat → Int32) (s_p0_kinds : Nat → Int32) (s_p0_lineCount : Nat → Int32) (s_p0_lines : Nat → Int64) (s_p0_marks : Nat → Int32) (s_p0_newRow : Nat → Int64) (s_p0_points : Nat → Int32) (Q : Int32 → (Int32) → (Int32) → (Int32) → (Int64) → (Nat → Int32) → (Nat → Int32) → (Nat → Int32) → (Nat → Int64) → (Nat → Int32) → (Nat → Int64) → (Nat → Int32) → Prop) : Prop := (Q t_0 s_p0_finding s_p0_newPoints s_p0_newLines s_p0_faultAt s_p0_findings s_p0_kinds s_p0_lineCount s_p0_lines s_p0_marks s_p0_newRow s_p0_points)
def w_X7_derive_258 (x_1 : Int32) (x_2 : Int32) (x_3 : Int32) (x_6 : Int64) (x_8 : Int64) (x_10 : Int32) (s_p0_finding : Int32) (s_p0_newPoints : Int32) (s_p0_newLines : Int32) (s_p0_faultAt : Int64) (s_p0_findings : Nat → Int32) (s_p0_kinds : Nat → Int32) (s_p0_lineCount : Nat → Int32) (s_p0_lines : Nat → Int64) (s_p0_marks : Nat → Int32) (s_p0_newRow : Nat → Int64) (s_p0_points : Nat → Int32) (K_191 : (Int64) → (Int32) → (Int32) → (Nat → Int64) → Prop) (Q : Int32 → (Int32) → (Int32) → (Int32) → (Int64) → (Nat → Int32) → (Nat → Int32) → (Nat → Int32) → (Nat → Int64) → (Nat → Int32) → (Nat → Int64) → (Nat → Int32) → Prop) : Prop := (K_191 x_8 (x_10 + (1 : Int32)) s_p0_newLines s_p0_newRow)
def w_X7_derive_191s (x_1 : Int32) (x_2 : Int32) (x_3 : Int32) (x_6 : Int64) (s_p0_finding : Int32) (s_p0_newPoints : Int32) (s_p0_faultAt : Int64) (s_p0_findings : Nat → Int32) (s_p0_kinds : Nat → Int32) (s_p0_lineCount : Nat → Int32) (s_p0_lines : Nat → Int64) (s_p0_marks : Nat → Int32) (s_p0_points : Nat → Int32) (Q : Int32 → (Int32) → (Int32) → (Int32) → (Int64) → (Nat → Int32) → (Nat → Int32) → (Nat → Int32) → (Nat → Int64) → (Nat → Int32) → (Nat → Int64) → (Nat → Int32) → Prop) (K_191 : (Int64) → (Int32) → (Int32) → (Nat → Int64) → Prop) (x_8 : Int64) (x_10 : Int32) (s_p0_newLines : Int32) (s_p0_newRow : Nat → Int64) : Prop := (vp_in x_1 6 ∧ (((s_p0_points (x_1).toNatClampNeg) ≤ x_10 → ((s_p0_newLines ≤ (45 : Int32) → (w_X7_keep x_3 (3 : Int32) (0 : Int32) s_p0_newPoints s_p0_newLines s_p0_kinds s_p0_lineCount s_p0_lines s_p0_marks s_p0_newRow s_p0_points (fun (r_282 : Int32) (u_282_0 : Nat → Int32) (u_282_1 : Nat → Int32) (u_282_2 : Nat → Int64) (u_282_3 : Nat → Int32) (u_282_4 : Nat → Int32) => (w_X7_derive_285 r_282 s_p0_finding s_p0_newPoints s_p0_newLines s_p0_faultAt s_p0_findings u_282_0 u_282_1 u_282_2 u_282_3 s_p0_newRow u_282_4 Q)))) ∧ (¬ s_p0_newLines ≤ (45 : Int32) → (w_X7_derive_285 (-2 : Int32) s_p0_finding s_p0_newPoints s_p0_newLines s_p0_faultAt s_p0_findings s_p0_kinds s_p0_lineCount s_p0_lines s_p0_marks s_p0_newRow s_p0_points Q)))) ∧ (¬ (s_p0_points (x_1).toNatClampNeg) ≤ x_10 → (w_X7_has x_6 x_10 (fun (r_206 : Int32) => ((r_206 = 0 → (w_X7_derive_258 x_1 x_2 x_3 x_6 x_8 x_10 s_p0_finding s_p0_newPoints s_p0_newLines s_p0_faultAt s_p0_findings s_p0_kinds s_p0_lineCount s_p0_lines s_p0_marks s_p0_newRow s_p0_points K_191 Q)) ∧ (¬ r_206 = 0 → (w_X7_has x_8 x_10 (fun (r_216 : Int32) => ((¬ r_216 = 0 → (w_X7_derive_258 x_1 x_2 x_3 x_6 x_8 x_10 s_p0_finding s_p0_newPoints s_p0_newLines s_p0_faultAt s_p0_findings s_p0_kinds s_p0_lineCount s_p0_lines s_p0_marks s_p0_newRow s_p0_points K_191 Q)) ∧ (r_216 = 0 → (w_X7_spanOf x_1 x_2 x_10 s_p0_lineCount s_p0_lines s_p0_points (fun (r_227 : Int64) => (w_X7_closed (r_227 &&& ((vshl (1 : Int64) x_2) ^^^ (-1 : Int64))) x_6 (fun (r_252 : Int64) => (w_X7_add r_252 s_p0_newLines s_p0_newRow (fun (u_255_0 : Int32) (u_255_1 : Nat → Int64) => (w_X7_derive_258 x_1 x_2 x_3 x_6 (x_8 ||| (r_227 &&& ((vshl (1 : Int64) x_2) ^^^ (-1 : Int64)))) x_10 s_p0_finding s_p0_newPoints u_255_0 s_p0_faultAt s_p0_findings s_p0_kinds s_p0_lineCount s_p0_lines s_p0_marks u_255_1 s_p0_points K_191 Q))))))))))))))))))
def w_X7_derive_191 (x_1 : Int32) (x_2 : Int32) (x_3 : Int32) (x_6 : Int64) (s_p0_finding : Int32) (s_p0_newPoints : Int32) (s_p0_faultAt : Int64) (s_p0_findings : Nat → Int32) (s_p0_kinds : Nat → Int32) (s_p0_lineCount : Nat → Int32) (s_p0_lines : Nat → Int64) (s_p0_marks : Nat → Int32) (s_p0_points : Nat → Int32) (Q : Int32 → (Int32) → (Int32) → (Int32) → (Int64) → (Nat → Int32) → (Nat → Int32) → (Nat → Int32) → (Nat → Int64) → (Nat → Int32) → (Nat → Int64) → (Nat → Int32) → Prop) : Nat → (Int64) → (Int32) → (Int32) → (Nat → Int64) → Prop
  | 0 => fun _ _ _ _ => False
  | n_ + 1 => w_X7_derive_191s x_1 x_2 x_3 x_6 s_p0_finding s_p0_newPoints s_p0_faultAt s_p0_findings s_p0_kinds s_p0_lineCount s_p0_lines s_p0_marks s_p0_points Q (w_X7_derive_191 x_1 x_2 x_3 x_6 s_p0_finding s_p0_newPoints s_p0_faultAt s_p0_findings s_p0_kinds s_p0_lineCount s_p0_lines s_p0_marks s_p0_points Q n_)
def w_X7_derive_179 (x_1 : Int32) (x_2 : Int32) (x_3 : Int32) (x_6 : Int64) (x_8 : Int32) (s_p0_finding : Int32) (s_p0_newPoints : Int32) (s_p0_newLines : Int32) (s_p0_faultAt : Int64) (s_p0_findings : Nat → Int32) (s_p0_kinds : Nat → Int32) (s_p0_lineCount : Nat → Int32) (s_p0_lines : Nat → Int64) (s_p0_marks : Nat → Int32) (s_p0_newRow : Nat → Int64) (s_p0_points : Nat → Int32) (K_128 : (Int32) → (Int32) → (Nat → Int64) → Prop) (Q : Int32 → (Int32) → (Int32) → (Int32) → (Int64) → (Nat → Int32) → (Nat → Int32) → (Nat → Int32) → (Nat → Int64) → (Nat → Int32) → (Nat → Int64) → (Nat → Int32) → Prop) : Prop := (K_128 (x_8 + (1 : Int32)) s_p0_newLines s_p0_newRow)
def w_X7_derive_128s (x_1 : Int32) (x_2 : Int32) (x_3 : Int32) (x_6 : Int64) (s_p0_finding : Int32) (s_p0_newPoints : Int32) (s_p0_faultAt : Int64) (s_p0_findings : Nat → Int32) (s_p0_kinds : Nat → Int32) (s_p0_lineCount : Nat → Int32) (s_p0_lines : Nat → Int64) (s_p0_marks : Nat → Int32) (s_p0_points : Nat → Int32) (Q : Int32 → (Int32) → (Int32) → (Int32) → (Int64) → (Nat → Int32) → (Nat → Int32) → (Nat → Int32) → (Nat → Int64) → (Nat → Int32) → (Nat → Int64) → (Nat → Int32) → Prop) (K_128 : (Int32) → (Int32) → (Nat → Int64) → Prop) (x_8 : Int32) (s_p0_newLines : Int32) (s_p0_newRow : Nat → Int64) : Prop := (vp_in x_1 6 ∧ (((s_p0_lineCount (x_1).toNatClampNeg) ≤ x_8 → (∃ n_, w_X7_derive_191 x_1 x_2 x_3 x_6 s_p0_finding s_p0_newPoints s_p0_faultAt s_p0_findings s_p0_kinds s_p0_lineCount s_p0_lines s_p0_marks s_p0_points Q n_ (0 : Int64) (0 : Int32) s_p0_newLines s_p0_newRow)) ∧ (¬ (s_p0_lineCount (x_1).toNatClampNeg) ≤ x_8 → (vp_in (((45 : Int32) * x_1) + x_8) 270 ∧ (w_X7_has (s_p0_lines ((((45 : Int32) * x_1) + x_8)).toNatClampNeg) x_2 (fun (r_152 : Int32) => ((¬ r_152 = 0 → (w_X7_derive_179 x_1 x_2 x_3 x_6 x_8 s_p0_finding s_p0_newPoints s_p0_newLines s_p0_faultAt s_p0_findings s_p0_kinds s_p0_lineCount s_p0_lines s_p0_marks s_p0_newRow s_p0_points K_128 Q)) ∧ (r_152 = 0 → (vp_in (((45 : Int32) * x_1) + x_8) 270 ∧ (w_X7_closed (s_p0_lines ((((45 : Int32) * x_1) + x_8)).toNatClampNeg) x_6 (fun (r_173 : Int64) => (w_X7_add r_173 s_p0_newLines s_p0_newRow (fun (u_176_0 : Int32) (u_176_1 : Nat → Int64) => (w_X7_derive_179 x_1 x_2 x_3 x_6 x_8 s_p0_finding s_p0_newPoints u_176_0 s_p0_faultAt s_p0_findings s_p0_kinds s_p0_lineCount s_p0_lines s_p0_marks u_176_1 s_p0_points K_128 Q))))))))))))))
def w_X7_derive_128 (x_1 : Int32) (x_2 : Int32) (x_3 : Int32) (x_6 : Int64) (s_p0_finding : Int32) (s_p0_newPoints : Int32) (s_p0_faultAt : Int64) (s_p0_findings : Nat → Int32) (s_p0_kinds : Nat → Int32) (s_p0_lineCount : Nat → Int32) (s_p0_lines : Nat → Int64) (s_p0_marks : Nat → Int32) (s_p0_points : Nat → Int32) (Q : Int32 → (Int32) → (Int32) → (Int32) → (Int64) → (Nat → Int32) → (Nat → Int32) → (Nat → Int32) → (Nat → Int64) → (Nat → Int32) → (Nat → Int64) → (Nat → Int32) → Prop) : Nat → (Int32) → (Int32) → (Nat → Int64) → Prop
  | 0 => fun _ _ _ => False
  | n_ + 1 => w_X7_derive_128s x_1 x_2 x_3 x_6 s_p0_finding s_p0_newPoints s_p0_faultAt s_p0_findings s_p0_kinds s_p0_lineCount s_p0_lines s_p0_marks s_p0_points Q (w_X7_derive_128 x_1 x_2 x_3 x_6 s_p0_finding s_p0_newPoints s_p0_faultAt s_p0_findings s_p0_kinds s_p0_lineCount s_p0_lines s_p0_marks s_p0_points Q n_)
def w_X7_derive_90 (s_p0_finding : Int32) (s_p0_newPoints : Int32) (s_p0_newLines : Int32) (s_p0_faultAt : Int64) (s_p0_findings : Nat → Int32) (s_p0_kinds : Nat → Int32) (s_p0_lineCount : Nat → Int32) (s_p0_lines : Nat → Int64) (s_p0_marks : Nat → Int32) (s_p0_newRow : Nat → Int64) (s_p0_points : Nat → Int32) (Q : Int32 → (Int32) → (Int32) → (Int32) → (Int64) → (Nat → Int32) → (Nat → Int32) → (Nat → Int32) → (Nat → Int64) → (Nat → Int32) → (Nat → Int64) → (Nat → Int32) → Prop) : Prop := (Q (-4 : Int32) s_p0_finding s_p0_newPoints s_p0_newLines s_p0_faultAt s_p0_findings s_p0_kinds s_p0_lineCount s_p0_lines s_p0_marks s_p0_newRow s_p0_points)
def w_X7_derive_14 (s_p0_finding : Int32) (s_p0_newPoints : Int32) (s_p0_newLines : Int32) (s_p0_faultAt : Int64) (s_p0_findings : Nat → Int32) (s_p0_kinds : Nat → Int32) (s_p0_lineCount : Nat → Int32) (s_p0_lines : Nat → Int64) (s_p0_marks : Nat → Int32) (s_p0_newRow : Nat → Int64) (s_p0_points : Nat → Int32) (Q : Int32 → (Int32) → (Int32) → (Int32) → (Int64) → (Nat → Int32) → (Nat → Int32) → (Nat → Int32) → (Nat → Int64) → (Nat → Int32) → (Nat → Int64) → (Nat → Int32) → Prop) : Prop := (Q (-1 : Int32) s_p0_finding s_p0_newPoints s_p0_newLines s_p0_faultAt s_p0_findings s_p0_kinds s_p0_lineCount s_p0_lines s_p0_marks s_p0_newRow s_p0_points)
def w_X7_derive (x_1 : Int32) (x_2 : Int32) (x_3 : Int32) (s_p0_finding : Int32) (s_p0_newPoints : Int32) (s_p0_newLines : Int32) (s_p0_faultAt : Int64) (s_p0_findings : Nat → Int32) (s_p0_kinds : Nat → Int32) (s_p0_lineCount : Nat → Int32) (s_p0_lines : Nat → Int64) (s_p0_marks : Nat → Int32) (s_p0_newRow : Nat → Int64) (s_p0_points : Nat → Int32) (Q : Int32 → (Int32) → (Int32) → (Int32) → (Int64) → (Nat → Int32) → (Nat → Int32) → (Nat → Int32) → (Nat → Int64) → (Nat → Int32) → (Nat → Int64) → (Nat → Int32) → Prop) : Prop := (w_X7_isNumber x_1 (fun (r_1 : Int32) => ((r_1 = 0 → (w_X7_derive_14 s_p0_finding s_p0_newPoints s_p0_newLines s_p0_faultAt s_p0_findings s_p0_kinds s_p0_lineCount s_p0_lines s_p0_marks s_p0_newRow s_p0_points Q)) ∧ (¬ r_1 = 0 → (w_X7_isNumber x_3 (fun (r_8 : Int32) => ((¬ r_8 = 0 → (w_X7_looked x_1 s_p0_finding s_p0_findings s_p0_points (fun (r_18 : Int32) (u_18_0 : Int32) (u_18_1 : Nat → Int32) => ((0 ≤ r_18 → (w_X7_isPoint x_1 x_2 s_p0_points (fun (r_34 : Int32) => ((¬ r_34 = 0 → (w_X7_orderOf x_1 (0 : Int32) s_p0_lineCount s_p0_lines s_p0_points (fun (r_49 : Int32) => (w_X7_faultOf x_1 s_p0_faultAt s_p0_lineCount s_p0_lines s_p0_points (fun (r_56 : Int32) (u_56_0 : Int64) => ((¬ r_56 = 0 → (w_X7_derive_90 u_18_0 s_p0_newPoints s_p0_newLines u_56_0 u_18_1 s_p0_kinds s_p0_lineCount s_p0_lines s_p0_marks s_p0_newRow s_p0_points Q)) ∧ (r_56 = 0 → ((r_49 < (2 : Int32) → (w_X7_derive_90 u_18_0 s_p0_newPoints s_p0_newLines u_56_0 u_18_1 s_p0_kinds s_p0_lineCount s_p0_lines s_p0_marks s_p0_newRow s_p0_points Q)) ∧ (¬ r_49 < (2 : Int32) → (w_X7_orderOf x_1 (1 : Int32) s_p0_lineCount s_p0_lines s_p0_points (fun (r_71 : Int32) => ((¬ r_71 = r_49 → (w_X7_derive_90 u_18_0 s_p0_newPoints s_p0_newLines u_56_0 u_18_1 s_p0_kinds s_p0_lineCount s_p0_lines s_p0_marks s_p0_newRow s_p0_points Q)) ∧ (r_71 = r_49 → (w_X7_isRegular x_1 x_2 r_49 s_p0_lineCount s_p0_lines s_p0_points (fun (r_84 : Int32) => ((¬ r_84 = 0 → (w_X7_allOf x_1 s_p0_points (fun (r_95 : Int64) => (w_X7_nearTo x_1 x_2 s_p0_lineCount s_p0_lines (fun (r_101 : Int64) => (w_X7_bits (r_95 &&& (r_101 ^^^ (-1 : Int64))) (fun (r_114 : Int32) => (∃ n_, w_X7_derive_128 x_1 x_2 x_3 (r_95 &&& (r_101 ^^^ (-1 : Int64))) u_18_0 r_114 u_56_0 u_18_1 s_p0_kinds s_p0_lineCount s_p0_lines s_p0_marks s_p0_points Q n_ (0 : Int32) (0 : Int32) s_p0_newRow)))))))) ∧ (r_84 = 0 → (w_X7_derive_90 u_18_0 s_p0_newPoints s_p0_newLines u_56_0 u_18_1 s_p0_kinds s_p0_lineCount s_p0_lines s_p0_marks s_p0_newRow s_p0_points Q)))))))))))))))))) ∧ (r_34 = 0 → (w_X7_meets (2 : Int32) u_18_0 u_18_1 (fun (r_42 : Int32) (u_42_0 : Int32) (u_42_1 : Nat → Int32) => (Q r_42 u_42_0 s_p0_newPoints s_p0_newLines s_p0_faultAt u_42_1 s_p0_kinds s_p0_lineCount s_p0_lines s_p0_marks s_p0_newRow s_p0_points)))))))) ∧ (¬ 0 ≤ r_18 → (Q r_18 u_18_0 s_p0_newPoints s_p0_newLines s_p0_faultAt u_18_1 s_p0_kinds s_p0_lineCount s_p0_lines s_p0_marks s_p0_newRow s_p0_points)))))) ∧ (r_8 = 0 → (w_X7_derive_14 s_p0_finding s_p0_newPoints s_p0_newLines s_p0_faultAt s_p0_findings s_p0_kinds s_p0_lineCount s_p0_lines s_p0_marks s_p0_newRow s_p0_points Q)))))))))
-- X7_derive
theorem iX7_derive_X7 : ∀ w ∈ wsX70, w ∈ wsX7_derive := by decide +kernel
set_option maxHeartbeats 4000000 in
set_option maxRecDepth 100000 in
theorem k_X7_derive_285 {E : vE} {T : Nat → ClassId} {o_p0 : Nat} {a_p0 : Nat → Nat} {s_p0_finding : Int32} {s_p0_asked : Int64} {s_p0_newPoints : Int32} {s_p0_newLines : Int32} {s_p0_faultAt : Int64} {s_p0_tries : Int32} {s_p0_things : Int32} {s_p0_goals : Int32} {s_p0_level : Int32} {s_p0_findings : Nat → Int32} {s_p0_kinds : Nat → Int32} {s_p0_lineCount : Nat → Int32} {s_p0_lines : Nat → Int64} {s_p0_marks : Nat → Int32} {s_p0_newRow : Nat → Int64} {s_p0_points : Nat → Int32} {t_0 : Int32} {Q : Int32 → (Int32) → (Int32) → (Int32) → (Int64) → (Nat → Int32) → (Nat → Int32) → (Nat → Int32) → (Nat → Int64) → (Nat → Int32) → (Nat → Int64) → (Nat → Int32) → Prop} (X : vX E cX7_derive 13 RX7 wsX7_derive (vT T) (vr 5 123)) (r : r_X7_derive E T o_p0 a_p0 s_p0_asked s_p0_tries s_p0_things s_p0_goals s_p0_level Q) (h : w_X7_derive_285 t_0 s_p0_finding s_p0_newPoints s_p0_newLines s_p0_faultAt s_p0_findings s_p0_kinds s_p0_lineCount s_p0_lines s_p0_marks s_p0_newRow s_p0_points Q) : V E 0 0 285 [] [.int t_0] (cl_X7_derive T o_p0 a_p0 s_p0_finding s_p0_asked s_p0_newPoints s_p0_newLines s_p0_faultAt s_p0_tries s_p0_things s_p0_goals s_p0_level s_p0_findings s_p0_kinds s_p0_lineCount s_p0_lines s_p0_marks s_p0_newRow s_p0_points) := by
  unfold w_X7_derive_285 at h
  exact r _ _ _ (s_p0_finding, s_p0_newPoints, s_p0_newLines, s_p0_faultAt, s_p0_findings, s_p0_kinds, s_p0_lineCount, s_p0_lines, s_p0_marks, s_p0_newRow, s_p0_points) _ dX7_derive_285 h rfl
set_option maxHeartbeats 4000000 in
set_option maxRecDepth 100000 in
theorem k_X7_derive_258 {E : vE} {T : Nat → ClassId} {o_p0 : Nat} {a_p0 : Nat → Nat} {s_p0_finding : Int32} {s_p0_asked : Int64} {s_p0_newPoints : Int32} {s_p0_newLines : Int32} {s_p0_faultAt : Int64} {s_p0_tries : Int32} {s_p0_things : Int32} {s_p0_goals : Int32} {s_p0_level : Int32} {s_p0_findings : Nat → Int32} {s_p0_kinds : Nat → Int32} {s_p0_lineCount : Nat → Int32} {s_p0_lines : Nat → Int64} {s_p0_marks : Nat → Int32} {s_p0_newRow : Nat → Int64} {s_p0_points : Nat → Int32} {x_1 : Int32} {x_2 : Int32} {x_3 : Int32} {x_6 : Int64} {x_8 : Int64} {x_10 : Int32} {K_191 : (Int64) → (Int32) → (Int32) → (Nat → Int64) → Prop} {Q : Int32 → (Int32) → (Int32) → (Int32) → (Int64) → (Nat → Int32) → (Nat → Int32) → (Nat → Int32) → (Nat → Int64) → (Nat → Int32) → (Nat → Int64) → (Nat → Int32) → Prop} (X : vX E cX7_derive 13 RX7 wsX7_derive (vT T) (vr 5 123)) (r : r_X7_derive E T o_p0 a_p0 s_p0_asked s_p0_tries s_p0_things s_p0_goals s_p0_level Q) (hK_191 : ∀ (x_8' : Int64) (x_10' : Int32) (s_p0_newLines' : Int32) (s_p0_newRow' : Nat → Int64), K_191 x_8' x_10' s_p0_newLines' s_p0_newRow' → V E 0 0 191 [(0, .ref o_p0), (1, .int x_1), (2, .int x_2), (3, .int x_3), (6, .long x_6), (8, .long x_8'), (10, .int x_10')] [] (cl_X7_derive T o_p0 a_p0 s_p0_finding s_p0_asked s_p0_newPoints s_p0_newLines' s_p0_faultAt s_p0_tries s_p0_things s_p0_goals s_p0_level s_p0_findings s_p0_kinds s_p0_lineCount s_p0_lines s_p0_marks s_p0_newRow' s_p0_points)) (h : w_X7_derive_258 x_1 x_2 x_3 x_6 x_8 x_10 s_p0_finding s_p0_newPoints s_p0_newLines s_p0_faultAt s_p0_findings s_p0_kinds s_p0_lineCount s_p0_lines s_p0_marks s_p0_newRow s_p0_points K_191 Q) : V E 0 0 258 [(0, .ref o_p0), (1, .int x_1), (2, .int x_2), (3, .int x_3), (6, .long x_6), (8, .long x_8), (10, .int x_10)] [] (cl_X7_derive T o_p0 a_p0 s_p0_finding s_p0_asked s_p0_newPoints s_p0_newLines s_p0_faultAt s_p0_tries s_p0_things s_p0_goals s_p0_level s_p0_findings s_p0_kinds s_p0_lineCount s_p0_lines s_p0_marks s_p0_newRow s_p0_points) := by
  unfold w_X7_derive_258 at h
  refine v_iinc X (v := (x_10 + (1 : Int32))) (lv' := [(10, .int (x_10 + (1 : Int32))), (0, .ref o_p0), (1, .int x_1), (2, .int x_2), (3, .int x_3), (6, .long x_6), (8, .long x_8)]) 6 dX7_derive_258 rfl rfl (by decide) rfl ?_
  refine v_goto X (tgt := 191) dX7_derive_261 (by decide) ?_
  refine v_lv (lv' := [(0, .ref o_p0), (1, .int x_1), (2, .int x_2), (3, .int x_3), (6, .long x_6), (8, .long x_8), (10, .int (x_10 + (1 : Int32)))]) [1, 2, 3, 4, 5, 6, 0] rfl ?_
  exact hK_191 _ _ _ _ h
set_option maxHeartbeats 4000000 in
set_option maxRecDepth 100000 in
theorem k_X7_derive_191 {E : vE} {T : Nat → ClassId} {o_p0 : Nat} {a_p0 : Nat → Nat} {s_p0_finding : Int32} {s_p0_asked : Int64} {s_p0_newPoints : Int32} {s_p0_faultAt : Int64} {s_p0_tries : Int32} {s_p0_things : Int32} {s_p0_goals : Int32} {s_p0_level : Int32} {s_p0_findings : Nat → Int32} {s_p0_kinds : Nat → Int32} {s_p0_lineCount : Nat → Int32} {s_p0_lines : Nat → Int64} {s_p0_marks : Nat → Int32} {s_p0_points : Nat → Int32} {x_1 : Int32} {x_2 : Int32} {x_3 : Int32} {x_6 : Int64} {Q : Int32 → (Int32) → (Int32) → (Int32) → (Int64) → (Nat → Int32) → (Nat → Int32) → (Nat → Int32) → (Nat → Int64) → (Nat → Int32) → (Nat → Int64) → (Nat → Int32) → Prop} (X : vX E cX7_derive 13 RX7 wsX7_derive (vT T) (vr 5 123)) (r : r_X7_derive E T o_p0 a_p0 s_p0_asked s_p0_tries s_p0_things s_p0_goals s_p0_level Q) : ∀ (n_ : Nat) (x_8 : Int64) (x_10 : Int32) (s_p0_newLines : Int32) (s_p0_newRow : Nat → Int64), w_X7_derive_191 x_1 x_2 x_3 x_6 s_p0_finding s_p0_newPoints s_p0_faultAt s_p0_findings s_p0_kinds s_p0_lineCount s_p0_lines s_p0_marks s_p0_points Q n_ x_8 x_10 s_p0_newLines s_p0_newRow → V E 0 0 191 [(0, .ref o_p0), (1, .int x_1), (2, .int x_2), (3, .int x_3), (6, .long x_6), (8, .long x_8), (10, .int x_10)] [] (cl_X7_derive T o_p0 a_p0 s_p0_finding s_p0_asked s_p0_newPoints s_p0_newLines s_p0_faultAt s_p0_tries s_p0_things s_p0_goals s_p0_level s_p0_findings s_p0_kinds s_p0_lineCount s_p0_lines s_p0_marks s_p0_newRow s_p0_points) := by
  intro n_
  induction n_ with
  | zero => intro x_8 x_10 s_p0_newLines s_p0_newRow h; exact h.elim
  | succ n_ hK_191 =>
    intro x_8 x_10 s_p0_newLines s_p0_newRow h
    replace h : w_X7_derive_191s x_1 x_2 x_3 x_6 s_p0_finding s_p0_newPoints s_p0_faultAt s_p0_findings s_p0_kinds s_p0_lineCount s_p0_lines s_p0_marks s_p0_points Q (w_X7_derive_191 x_1 x_2 x_3 x_6 s_p0_finding s_p0_newPoints s_p0_faultAt s_p0_findings s_p0_kinds s_p0_lineCount s_p0_lines s_p0_marks s_p0_points Q n_) x_8 x_10 s_p0_newLines s_p0_newRow := h
    unfold w_X7_derive_191s at h
    refine v_iload X 6 dX7_derive_191 rfl ?_
    refine v_aload_n X 0 dX7_derive_193 rfl rfl ?_
    refine v_get X 0 3 (F := TX7) (N := 33) iX7_derive_X7 rfl rfl (by decide) (List.mem_of_getElem? (i := 6) rfl) rfl rfl dX7_derive_194 ?_
    refine v_iload_n X 1 dX7_derive_197 rfl rfl ?_
    refine v_iald X 7 0 rfl rfl h.1 dX7_derive_198 ?_
    replace h := h.2
    refine v_icmp_ge X (tgt := 264) dX7_derive_199 (by decide) (fun c_199 => ?_) (fun c_199 => ?_)
    · replace h := h.1 c_199
      refine v_aload_n X 0 dX7_derive_264 rfl rfl ?_
      refine v_get X 0 9 (F := TX7) (N := 33) iX7_derive_X7 rfl rfl (by decide) (List.mem_of_getElem? (i := 3) rfl) rfl rfl dX7_derive_265 ?_
      refine v_bipush X dX7_derive_268 (v := (45 : Int32)) (by decide) ?_
      refine v_icmp_le X (tgt := 278) dX7_derive_270 (by decide) (fun c_270 => ?_) (fun c_270 => ?_)
      · replace h := h.1 c_270
        refine v_aload_n X 0 dX7_derive_278 rfl rfl ?_
        refine v_iload_n X 3 dX7_derive_279 rfl rfl ?_
        refine v_iconst X dX7_derive_280 (v := (3 : Int32)) (by decide) ?_
        refine v_iconst X dX7_derive_281 (v := (0 : Int32)) (by decide) ?_
        refine v_callVi X (As := [.int x_3, .int (3 : Int32), .int (0 : Int32)]) (rest := []) 3 0 (c_X7_keep (l := vl E) (D := vD E) (T := T) (o_p0 := o_p0) (a_p0 := a_p0) (s_p0_finding := s_p0_finding) (s_p0_asked := s_p0_asked) (s_p0_newPoints := s_p0_newPoints) (s_p0_newLines := s_p0_newLines) (s_p0_faultAt := s_p0_faultAt) (s_p0_tries := s_p0_tries) (s_p0_things := s_p0_things) (s_p0_goals := s_p0_goals) (s_p0_level := s_p0_level) (s_p0_kinds := s_p0_kinds) (s_p0_lineCount := s_p0_lineCount) (s_p0_lines := s_p0_lines) (s_p0_marks := s_p0_marks) (s_p0_newRow := s_p0_newRow) (s_p0_points := s_p0_points) (x_1 := x_3) (x_2 := (3 : Int32)) (x_3 := (0 : Int32)) h) gX7_derive_X7_keep rfl rfl (by decide +kernel) ⟨Nat.zero_le _, Nat.zero_le _⟩ ⟨rfl, rfl, by decide, by decide⟩ (Nat.le_of_ble_eq_true rfl) rfl rfl (wr := [vI T (a_p0 1) 6 s_p0_findings]) [0, 2, 3, 4, 5, 6, 7] [1] rfl rfl rfl rfl (by decide) rfl dX7_derive_282 (fun r_282 u h => ?_)
        obtain ⟨u_282_0, u_282_1, u_282_2, u_282_3, u_282_4⟩ := u
        dsimp only at h
        refine v_ws (ws' := (cl_X7_derive T o_p0 a_p0 s_p0_finding s_p0_asked s_p0_newPoints s_p0_newLines s_p0_faultAt s_p0_tries s_p0_things s_p0_goals s_p0_level s_p0_findings u_282_0 u_282_1 u_282_2 u_282_3 s_p0_newRow u_282_4)) [1, 0, 2, 3, 4, 5, 6, 7] rfl rfl ?_
        refine v_lv (lv' := []) [] rfl ?_
        exact k_X7_derive_285 X r h
      · replace h := h.2 c_270
        refine v_bipush X dX7_derive_273 (v := (-2 : Int32)) (by decide) ?_
        refine v_goto X (tgt := 285) dX7_derive_275 (by decide) ?_
        refine v_lv (lv' := []) [] rfl ?_
        exact k_X7_derive_285 X r h
    · replace h := h.2 c_199
      refine v_lload X 4 dX7_derive_202 rfl ?_
      refine v_iload X 6 dX7_derive_204 rfl ?_
      refine v_callSi0 X (As := [.long x_6, .int x_10]) (rest := []) 2 (c_X7_has (l := vl E) (D := vD E) (T := T) (x_0 := x_6) (x_2 := x_10) h) gX7_derive_X7_has rfl rfl (by decide +kernel) ⟨Nat.zero_le _, Nat.zero_le _⟩ ⟨rfl, rfl, by decide, by decide⟩ (Nat.le_of_ble_eq_true rfl) rfl dX7_derive_206 (fun r_206 h => ?_)
      refine v_if_eq X (tgt := 258) dX7_derive_209 (by decide) (fun c_209 => ?_) (fun c_209 => ?_)
      · replace h := h.1 c_209
        exact k_X7_derive_258 X r hK_191 h
      · replace h := h.2 c_209
        refine v_lload X 5 dX7_derive_212 rfl ?_
        refine v_iload X 6 dX7_derive_214 rfl ?_
        refine v_callSi0 X (As := [.long x_8, .int x_10]) (rest := []) 2 (c_X7_has (l := vl E) (D := vD E) (T := T) (x_0 := x_8) (x_2 := x_10) h) gX7_derive_X7_has rfl rfl (by decide +kernel) ⟨Nat.zero_le _, Nat.zero_le _⟩ ⟨rfl, rfl, by decide, by decide⟩ (Nat.le_of_ble_eq_true rfl) rfl dX7_derive_216 (fun r_216 h => ?_)
        refine v_if_ne X (tgt := 258) dX7_derive_219 (by decide) (fun c_219 => ?_) (fun c_219 => ?_)
        · replace h := h.1 c_219
          exact k_X7_derive_258 X r hK_191 h
        · replace h := h.2 c_219
          refine v_aload_n X 0 dX7_derive_222 rfl rfl ?_
          refine v_iload_n X 1 dX7_derive_223 rfl rfl ?_
          refine v_iload_n X 2 dX7_derive_224 rfl rfl ?_
          refine v_iload X 6 dX7_derive_225 rfl ?_
          refine v_callVl X (As := [.int x_1, .int x_2, .int x_10]) (rest := []) 3 0 (c_X7_spanOf (l := vl E) (D := vD E) (T := T) (o_p0 := o_p0) (a_p0 := a_p0) (s_p0_finding := s_p0_finding) (s_p0_asked := s_p0_asked) (s_p0_newPoints := s_p0_newPoints) (s_p0_newLines := s_p0_newLines) (s_p0_faultAt := s_p0_faultAt) (s_p0_tries := s_p0_tries) (s_p0_things := s_p0_things) (s_p0_goals := s_p0_goals) (s_p0_level := s_p0_level) (s_p0_lineCount := s_p0_lineCount) (s_p0_lines := s_p0_lines) (s_p0_points := s_p0_points) (x_1 := x_1) (x_2 := x_2) (x_3 := x_10) h) gX7_derive_X7_spanOf rfl rfl (by decide +kernel) ⟨Nat.zero_le _, Nat.zero_le _⟩ ⟨rfl, rfl, by decide, by decide⟩ (Nat.le_of_ble_eq_true rfl) rfl rfl (wr := [vI T (a_p0 1) 6 s_p0_findings, vI T (a_p0 5) 6 s_p0_kinds, vI T (a_p0 6) 6 s_p0_marks, vJ T (a_p0 10) 120 s_p0_newRow]) [0, 3, 4, 7] [1, 2, 5, 6] rfl rfl rfl rfl (by decide) rfl dX7_derive_227 (fun r_227 u h => ?_)
          refine v_ws (ws' := (cl_X7_derive T o_p0 a_p0 s_p0_finding s_p0_asked s_p0_newPoints s_p0_newLines s_p0_faultAt s_p0_tries s_p0_things s_p0_goals s_p0_level s_p0_findings s_p0_kinds s_p0_lineCount s_p0_lines s_p0_marks s_p0_newRow s_p0_points)) [4, 0, 1, 5, 6, 2, 3, 7] rfl rfl ?_
          refine v_lconst X dX7_derive_230 (v := (1 : Int64)) (by decide) ?_
          refine v_iload_n X 2 dX7_derive_231 rfl rfl ?_
          refine v_lshl X dX7_derive_232 ?_
          refine v_ldc2 X (v := (-1 : Int64)) (List.mem_of_getElem? (i := 1) rfl) dX7_derive_233 ?_
          refine v_lxor X dX7_derive_236 ?_
          refine v_land X dX7_derive_237 ?_
          refine v_lstore X (lv' := [(11, .long (r_227 &&& ((vshl (1 : Int64) x_2) ^^^ (-1 : Int64)))), (0, .ref o_p0), (1, .int x_1), (2, .int x_2), (3, .int x_3), (6, .long x_6), (8, .long x_8), (10, .int x_10)]) dX7_derive_238 (by decide) rfl ?_
          refine v_lload X 6 dX7_derive_240 rfl ?_
          refine v_lload X 0 dX7_derive_242 rfl ?_
          refine v_lor X dX7_derive_244 ?_
          refine v_lstore X (lv' := [(8, .long (x_8 ||| (r_227 &&& ((vshl (1 : Int64) x_2) ^^^ (-1 : Int64))))), (11, .long (r_227 &&& ((vshl (1 : Int64) x_2) ^^^ (-1 : Int64)))), (0, .ref o_p0), (1, .int x_1), (2, .int x_2), (3, .int x_3), (6, .long x_6), (10, .int x_10)]) dX7_derive_245 (by decide) rfl ?_
          refine v_aload_n X 2 dX7_derive_247 rfl rfl ?_
          refine v_lload X 1 dX7_derive_248 rfl ?_
          refine v_lload X 6 dX7_derive_250 rfl ?_
          refine v_callSl0 X (As := [.long (r_227 &&& ((vshl (1 : Int64) x_2) ^^^ (-1 : Int64))), .long x_6]) (rest := [.ref o_p0]) 2 (c_X7_closed (l := vl E) (D := vD E) (T := T) (x_0 := (r_227 &&& ((vshl (1 : Int64) x_2) ^^^ (-1 : Int64)))) (x_2 := x_6) h) gX7_derive_X7_closed rfl rfl (by decide +kernel) ⟨Nat.zero_le _, Nat.zero_le _⟩ ⟨rfl, rfl, by decide, by decide⟩ (Nat.le_of_ble_eq_true rfl) rfl dX7_derive_252 (fun r_252 h => ?_)
          refine v_callVv X (As := [.long r_252]) (rest := []) 1 0 (c_X7_add (l := vl E) (D := vD E) (T := T) (o_p0 := o_p0) (a_p0 := a_p0) (s_p0_finding := s_p0_finding) (s_p0_asked := s_p0_asked) (s_p0_newPoints := s_p0_newPoints) (s_p0_newLines := s_p0_newLines) (s_p0_faultAt := s_p0_faultAt) (s_p0_tries := s_p0_tries) (s_p0_things := s_p0_things) (s_p0_goals := s_p0_goals) (s_p0_level := s_p0_level) (s_p0_newRow := s_p0_newRow) (x_1 := r_252) h) gX7_derive_X7_add rfl rfl (by decide +kernel) ⟨Nat.zero_le _, Nat.zero_le _⟩ ⟨rfl, rfl, by decide, by decide⟩ (Nat.le_of_ble_eq_true rfl) rfl rfl (wr := [vI T (a_p0 1) 6 s_p0_findings, vI T (a_p0 5) 6 s_p0_kinds, vI T (a_p0 4) 6 s_p0_lineCount, vJ T (a_p0 7) 270 s_p0_lines, vI T (a_p0 6) 6 s_p0_marks, vI T (a_p0 3) 6 s_p0_points]) [0, 6] [1, 2, 3, 4, 5, 7] rfl rfl rfl rfl (by decide) rfl dX7_derive_255 (fun u h => ?_)
          obtain ⟨u_255_0, u_255_1⟩ := u
          dsimp only at h
          refine v_ws (ws' := (cl_X7_derive T o_p0 a_p0 s_p0_finding s_p0_asked s_p0_newPoints u_255_0 s_p0_faultAt s_p0_tries s_p0_things s_p0_goals s_p0_level s_p0_findings s_p0_kinds s_p0_lineCount s_p0_lines s_p0_marks u_255_1 s_p0_points)) [6, 0, 1, 2, 3, 4, 7, 5] rfl rfl ?_
          refine v_lv (lv' := [(0, .ref o_p0), (1, .int x_1), (2, .int x_2), (3, .int x_3), (6, .long x_6), (8, .long (x_8 ||| (r_227 &&& ((vshl (1 : Int64) x_2) ^^^ (-1 : Int64))))), (10, .int x_10)]) [2, 3, 4, 5, 6, 0, 7] rfl ?_
          exact k_X7_derive_258 X r hK_191 h
set_option maxHeartbeats 4000000 in
set_option maxRecDepth 100000 in
theorem k_X7_derive_179 {E : vE} {T : Nat → ClassId} {o_p0 : Nat} {a_p0 : Nat → Nat} {s_p0_finding : Int32} {s_p0_asked : Int64} {s_p0_newPoints : Int32} {s_p0_newLines : Int32} {s_p0_faultAt : Int64} {s_p0_tries : Int32} {s_p0_things : Int32} {s_p0_goals : Int32} {s_p0_level : Int32} {s_p0_findings : Nat → Int32} {s_p0_kinds : Nat → Int32} {s_p0_lineCount : Nat → Int32} {s_p0_lines : Nat → Int64} {s_p0_marks : Nat → Int32} {s_p0_newRow : Nat → Int64} {s_p0_points : Nat → Int32} {x_1 : Int32} {x_2 : Int32} {x_3 : Int32} {x_6 : Int64} {x_8 : Int32} {K_128 : (Int32) → (Int32) → (Nat → Int64) → Prop} {Q : Int32 → (Int32) → (Int32) → (Int32) → (Int64) → (Nat → Int32) → (Nat → Int32) → (Nat → Int32) → (Nat → Int64) → (Nat → Int32) → (Nat → Int64) → (Nat → Int32) → Prop} (X : vX E cX7_derive 13 RX7 wsX7_derive (vT T) (vr 5 123)) (r : r_X7_derive E T o_p0 a_p0 s_p0_asked s_p0_tries s_p0_things s_p0_goals s_p0_level Q) (hK_128 : ∀ (x_8' : Int32) (s_p0_newLines' : Int32) (s_p0_newRow' : Nat → Int64), K_128 x_8' s_p0_newLines' s_p0_newRow' → V E 0 0 128 [(0, .ref o_p0), (1, .int x_1), (2, .int x_2), (3, .int x_3), (6, .long x_6), (8, .int x_8')] [] (cl_X7_derive T o_p0 a_p0 s_p0_finding s_p0_asked s_p0_newPoints s_p0_newLines' s_p0_faultAt s_p0_tries s_p0_things s_p0_goals s_p0_level s_p0_findings s_p0_kinds s_p0_lineCount s_p0_lines s_p0_marks s_p0_newRow' s_p0_points)) (h : w_X7_derive_179 x_1 x_2 x_3 x_6 x_8 s_p0_finding s_p0_newPoints s_p0_newLines s_p0_faultAt s_p0_findings s_p0_kinds s_p0_lineCount s_p0_lines s_p0_marks s_p0_newRow s_p0_points K_128 Q) : V E 0 0 179 [(0, .ref o_p0), (1, .int x_1), (2, .int x_2), (3, .int x_3), (6, .long x_6), (8, .int x_8)] [] (cl_X7_derive T o_p0 a_p0 s_p0_finding s_p0_asked s_p0_newPoints s_p0_newLines s_p0_faultAt s_p0_tries s_p0_things s_p0_goals s_p0_level s_p0_findings s_p0_kinds s_p0_lineCount s_p0_lines s_p0_marks s_p0_newRow s_p0_points) := by
  unfold w_X7_derive_179 at h
  refine v_iinc X (v := (x_8 + (1 : Int32))) (lv' := [(8, .int (x_8 + (1 : Int32))), (0, .ref o_p0), (1, .int x_1), (2, .int x_2), (3, .int x_3), (6, .long x_6)]) 5 dX7_derive_179 rfl rfl (by decide) rfl ?_
  refine v_goto X (tgt := 128) dX7_derive_182 (by decide) ?_
  refine v_lv (lv' := [(0, .ref o_p0), (1, .int x_1), (2, .int x_2), (3, .int x_3), (6, .long x_6), (8, .int (x_8 + (1 : Int32)))]) [1, 2, 3, 4, 5, 0] rfl ?_
  exact hK_128 _ _ _ h
set_option maxHeartbeats 4000000 in
set_option maxRecDepth 100000 in
theorem k_X7_derive_128 {E : vE} {T : Nat → ClassId} {o_p0 : Nat} {a_p0 : Nat → Nat} {s_p0_finding : Int32} {s_p0_asked : Int64} {s_p0_newPoints : Int32} {s_p0_faultAt : Int64} {s_p0_tries : Int32} {s_p0_things : Int32} {s_p0_goals : Int32} {s_p0_level : Int32} {s_p0_findings : Nat → Int32} {s_p0_kinds : Nat → Int32} {s_p0_lineCount : Nat → Int32} {s_p0_lines : Nat → Int64} {s_p0_marks : Nat → Int32} {s_p0_points : Nat → Int32} {x_1 : Int32} {x_2 : Int32} {x_3 : Int32} {x_6 : Int64} {Q : Int32 → (Int32) → (Int32) → (Int32) → (Int64) → (Nat → Int32) → (Nat → Int32) → (Nat → Int32) → (Nat → Int64) → (Nat → Int32) → (Nat → Int64) → (Nat → Int32) → Prop} (X : vX E cX7_derive 13 RX7 wsX7_derive (vT T) (vr 5 123)) (r : r_X7_derive E T o_p0 a_p0 s_p0_asked s_p0_tries s_p0_things s_p0_goals s_p0_level Q) : ∀ (n_ : Nat) (x_8 : Int32) (s_p0_newLines : Int32) (s_p0_newRow : Nat → Int64), w_X7_derive_128 x_1 x_2 x_3 x_6 s_p0_finding s_p0_newPoints s_p0_faultAt s_p0_findings s_p0_kinds s_p0_lineCount s_p0_lines s_p0_marks s_p0_points Q n_ x_8 s_p0_newLines s_p0_newRow → V E 0 0 128 [(0, .ref o_p0), (1, .int x_1), (2, .int x_2), (3, .int x_3), (6, .long x_6), (8, .int x_8)] [] (cl_X7_derive T o_p0 a_p0 s_p0_finding s_p0_asked s_p0_newPoints s_p0_newLines s_p0_faultAt s_p0_tries s_p0_things s_p0_goals s_p0_level s_p0_findings s_p0_kinds s_p0_lineCount s_p0_lines s_p0_marks s_p0_newRow s_p0_points) := by
  intro n_
  induction n_ with
  | zero => intro x_8 s_p0_newLines s_p0_newRow h; exact h.elim
  | succ n_ hK_128 =>
    intro x_8 s_p0_newLines s_p0_newRow h
    replace h : w_X7_derive_128s x_1 x_2 x_3 x_6 s_p0_finding s_p0_newPoints s_p0_faultAt s_p0_findings s_p0_kinds s_p0_lineCount s_p0_lines s_p0_marks s_p0_points Q (w_X7_derive_128 x_1 x_2 x_3 x_6 s_p0_finding s_p0_newPoints s_p0_faultAt s_p0_findings s_p0_kinds s_p0_lineCount s_p0_lines s_p0_marks s_p0_points Q n_) x_8 s_p0_newLines s_p0_newRow := h
    unfold w_X7_derive_128s at h
    refine v_iload X 5 dX7_derive_128 rfl ?_
    refine v_aload_n X 0 dX7_derive_130 rfl rfl ?_
    refine v_get X 0 4 (F := TX7) (N := 33) iX7_derive_X7 rfl rfl (by decide) (List.mem_of_getElem? (i := 4) rfl) rfl rfl dX7_derive_131 ?_
    refine v_iload_n X 1 dX7_derive_134 rfl rfl ?_
    refine v_iald X 3 0 rfl rfl h.1 dX7_derive_135 ?_
    replace h := h.2
    refine v_icmp_ge X (tgt := 185) dX7_derive_136 (by decide) (fun c_136 => ?_) (fun c_136 => ?_)
    · replace h := h.1 c_136
      refine v_lconst X dX7_derive_185 (v := (0 : Int64)) (by decide) ?_
      refine v_lstore X (lv' := [(8, .long (0 : Int64)), (0, .ref o_p0), (1, .int x_1), (2, .int x_2), (3, .int x_3), (6, .long x_6)]) dX7_derive_186 (by decide) rfl ?_
      refine v_iconst X dX7_derive_188 (v := (0 : Int32)) (by decide) ?_
      refine v_istore X (lv' := [(10, .int (0 : Int32)), (8, .long (0 : Int64)), (0, .ref o_p0), (1, .int x_1), (2, .int x_2), (3, .int x_3), (6, .long x_6)]) dX7_derive_189 (by decide) rfl ?_
      refine v_lv (lv' := [(0, .ref o_p0), (1, .int x_1), (2, .int x_2), (3, .int x_3), (6, .long x_6), (8, .long (0 : Int64)), (10, .int (0 : Int32))]) [2, 3, 4, 5, 6, 1, 0] rfl ?_
      obtain ⟨n_, h⟩ := h
      exact k_X7_derive_191 X r n_ _ _ _ _ h
    · replace h := h.2 c_136
      refine v_aload_n X 0 dX7_derive_139 rfl rfl ?_
      refine v_get X 0 7 (F := TX7) (N := 33) iX7_derive_X7 rfl rfl (by decide) (List.mem_of_getElem? (i := 5) rfl) rfl rfl dX7_derive_140 ?_
      refine v_bipush X dX7_derive_143 (v := (45 : Int32)) (by decide) ?_
      refine v_iload_n X 1 dX7_derive_145 rfl rfl ?_
      refine v_imul X dX7_derive_146 ?_
      refine v_iload X 5 dX7_derive_147 rfl ?_
      refine v_iadd X dX7_derive_149 ?_
      refine v_lald X 4 1 rfl rfl h.1 dX7_derive_150 ?_
      replace h := h.2
      refine v_iload_n X 2 dX7_derive_151 rfl rfl ?_
      refine v_callSi0 X (As := [.long (s_p0_lines ((((45 : Int32) * x_1) + x_8)).toNatClampNeg), .int x_2]) (rest := []) 2 (c_X7_has (l := vl E) (D := vD E) (T := T) (x_0 := (s_p0_lines ((((45 : Int32) * x_1) + x_8)).toNatClampNeg)) (x_2 := x_2) h) gX7_derive_X7_has rfl rfl (by decide +kernel) ⟨Nat.zero_le _, Nat.zero_le _⟩ ⟨rfl, rfl, by decide, by decide⟩ (Nat.le_of_ble_eq_true rfl) rfl dX7_derive_152 (fun r_152 h => ?_)
      refine v_if_ne X (tgt := 179) dX7_derive_155 (by decide) (fun c_155 => ?_) (fun c_155 => ?_)
      · replace h := h.1 c_155
        exact k_X7_derive_179 X r hK_128 h
      · replace h := h.2 c_155
        refine v_aload_n X 0 dX7_derive_158 rfl rfl ?_
        refine v_aload_n X 0 dX7_derive_159 rfl rfl ?_
        refine v_get X 0 7 (F := TX7) (N := 33) iX7_derive_X7 rfl rfl (by decide) (List.mem_of_getElem? (i := 5) rfl) rfl rfl dX7_derive_160 ?_
        refine v_bipush X dX7_derive_163 (v := (45 : Int32)) (by decide) ?_
        refine v_iload_n X 1 dX7_derive_165 rfl rfl ?_
        refine v_imul X dX7_derive_166 ?_
        refine v_iload X 5 dX7_derive_167 rfl ?_
        refine v_iadd X dX7_derive_169 ?_
        refine v_lald X 4 1 rfl rfl h.1 dX7_derive_170 ?_
        replace h := h.2
        refine v_lload X 4 dX7_derive_171 rfl ?_
        refine v_callSl0 X (As := [.long (s_p0_lines ((((45 : Int32) * x_1) + x_8)).toNatClampNeg), .long x_6]) (rest := [.ref o_p0]) 2 (c_X7_closed (l := vl E) (D := vD E) (T := T) (x_0 := (s_p0_lines ((((45 : Int32) * x_1) + x_8)).toNatClampNeg)) (x_2 := x_6) h) gX7_derive_X7_closed rfl rfl (by decide +kernel) ⟨Nat.zero_le _, Nat.zero_le _⟩ ⟨rfl, rfl, by decide, by decide⟩ (Nat.le_of_ble_eq_true rfl) rfl dX7_derive_173 (fun r_173 h => ?_)
        refine v_callVv X (As := [.long r_173]) (rest := []) 1 0 (c_X7_add (l := vl E) (D := vD E) (T := T) (o_p0 := o_p0) (a_p0 := a_p0) (s_p0_finding := s_p0_finding) (s_p0_asked := s_p0_asked) (s_p0_newPoints := s_p0_newPoints) (s_p0_newLines := s_p0_newLines) (s_p0_faultAt := s_p0_faultAt) (s_p0_tries := s_p0_tries) (s_p0_things := s_p0_things) (s_p0_goals := s_p0_goals) (s_p0_level := s_p0_level) (s_p0_newRow := s_p0_newRow) (x_1 := r_173) h) gX7_derive_X7_add rfl rfl (by decide +kernel) ⟨Nat.zero_le _, Nat.zero_le _⟩ ⟨rfl, rfl, by decide, by decide⟩ (Nat.le_of_ble_eq_true rfl) rfl rfl (wr := [vI T (a_p0 1) 6 s_p0_findings, vI T (a_p0 5) 6 s_p0_kinds, vI T (a_p0 4) 6 s_p0_lineCount, vJ T (a_p0 7) 270 s_p0_lines, vI T (a_p0 6) 6 s_p0_marks, vI T (a_p0 3) 6 s_p0_points]) [0, 6] [1, 2, 3, 4, 5, 7] rfl rfl rfl rfl (by decide) rfl dX7_derive_176 (fun u h => ?_)
        obtain ⟨u_176_0, u_176_1⟩ := u
        dsimp only at h
        refine v_ws (ws' := (cl_X7_derive T o_p0 a_p0 s_p0_finding s_p0_asked s_p0_newPoints u_176_0 s_p0_faultAt s_p0_tries s_p0_things s_p0_goals s_p0_level s_p0_findings s_p0_kinds s_p0_lineCount s_p0_lines s_p0_marks u_176_1 s_p0_points)) [6, 0, 1, 2, 3, 4, 7, 5] rfl rfl ?_
        exact k_X7_derive_179 X r hK_128 h
set_option maxHeartbeats 4000000 in
set_option maxRecDepth 100000 in
theorem k_X7_derive_90 {E : vE} {T : Nat → ClassId} {o_p0 : Nat} {a_p0 : Nat → Nat} {s_p0_finding : Int32} {s_p0_asked : Int64} {s_p0_newPoints : Int32} {s_p0_newLines : Int32} {s_p0_faultAt : Int64} {s_p0_tries : Int32} {s_p0_things : Int32} {s_p0_goals : Int32} {s_p0_level : Int32} {s_p0_findings : Nat → Int32} {s_p0_kinds : Nat → Int32} {s_p0_lineCount : Nat → Int32} {s_p0_lines : Nat → Int64} {s_p0_marks : Nat → Int32} {s_p0_newRow : Nat → Int64} {s_p0_points : Nat → Int32} {Q : Int32 → (Int32) → (Int32) → (Int32) → (Int64) → (Nat → Int32) → (Nat → Int32) → (Nat → Int32) → (Nat → Int64) → (Nat → Int32) → (Nat → Int64) → (Nat → Int32) → Prop} (X : vX E cX7_derive 13 RX7 wsX7_derive (vT T) (vr 5 123)) (r : r_X7_derive E T o_p0 a_p0 s_p0_asked s_p0_tries s_p0_things s_p0_goals s_p0_level Q) (h : w_X7_derive_90 s_p0_finding s_p0_newPoints s_p0_newLines s_p0_faultAt s_p0_findings s_p0_kinds s_p0_lineCount s_p0_lines s_p0_marks s_p0_newRow s_p0_points Q) : V E 0 0 90 [] [] (cl_X7_derive T o_p0 a_p0 s_p0_finding s_p0_asked s_p0_newPoints s_p0_newLines s_p0_faultAt s_p0_tries s_p0_things s_p0_goals s_p0_level s_p0_findings s_p0_kinds s_p0_lineCount s_p0_lines s_p0_marks s_p0_newRow s_p0_points) := by
  unfold w_X7_derive_90 at h
  refine v_bipush X dX7_derive_90 (v := (-4 : Int32)) (by decide) ?_
  exact r _ _ _ (s_p0_finding, s_p0_newPoints, s_p0_newLines, s_p0_faultAt, s_p0_findings, s_p0_kinds, s_p0_lineCount, s_p0_lines, s_p0_marks, s_p0_newRow, s_p0_points) _ dX7_derive_92 h rfl
set_option maxHeartbeats 4000000 in
set_option maxRecDepth 100000 in
theorem k_X7_derive_14 {E : vE} {T : Nat → ClassId} {o_p0 : Nat} {a_p0 : Nat → Nat} {s_p0_finding : Int32} {s_p0_asked : Int64} {s_p0_newPoints : Int32} {s_p0_newLines : Int32} {s_p0_faultAt : Int64} {s_p0_tries : Int32} {s_p0_things : Int32} {s_p0_goals : Int32} {s_p0_level : Int32} {s_p0_findings : Nat → Int32} {s_p0_kinds : Nat → Int32} {s_p0_lineCount : Nat → Int32} {s_p0_lines : Nat → Int64} {s_p0_marks : Nat → Int32} {s_p0_newRow : Nat → Int64} {s_p0_points : Nat → Int32} {Q : Int32 → (Int32) → (Int32) → (Int32) → (Int64) → (Nat → Int32) → (Nat → Int32) → (Nat → Int32) → (Nat → Int64) → (Nat → Int32) → (Nat → Int64) → (Nat → Int32) → Prop} (X : vX E cX7_derive 13 RX7 wsX7_derive (vT T) (vr 5 123)) (r : r_X7_derive E T o_p0 a_p0 s_p0_asked s_p0_tries s_p0_things s_p0_goals s_p0_level Q) (h : w_X7_derive_14 s_p0_finding s_p0_newPoints s_p0_newLines s_p0_faultAt s_p0_findings s_p0_kinds s_p0_lineCount s_p0_lines s_p0_marks s_p0_newRow s_p0_points Q) : V E 0 0 14 [] [] (cl_X7_derive T o_p0 a_p0 s_p0_finding s_p0_asked s_p0_newPoints s_p0_newLines s_p0_faultAt s_p0_tries s_p0_things s_p0_goals s_p0_level s_p0_findings s_p0_kinds s_p0_lineCount s_p0_lines s_p0_marks s_p0_newRow s_p0_points) := by
  unfold w_X7_derive_14 at h
  refine v_iconst X dX7_derive_14 (v := (-1 : Int32)) (by decide) ?_
  exact r _ _ _ (s_p0_finding, s_p0_newPoints, s_p0_newLines, s_p0_faultAt, s_p0_findings, s_p0_kinds, s_p0_lineCount, s_p0_lines, s_p0_marks, s_p0_newRow, s_p0_points) _ dX7_derive_15 h rfl
set_option maxHeartbeats 4000000 in
set_option maxRecDepth 100000 in
theorem c_X7_derive {l : Launch} {D : va_G} {T : Nat → ClassId} {o_p0 : Nat} {a_p0 : Nat → Nat} {s_p0_finding : Int32} {s_p0_asked : Int64} {s_p0_newPoints : Int32} {s_p0_newLines : Int32} {s_p0_faultAt : Int64} {s_p0_tries : Int32} {s_p0_things : Int32} {s_p0_goals : Int32} {s_p0_level : Int32} {s_p0_findings : Nat → Int32} {s_p0_kinds : Nat → Int32} {s_p0_lineCount : Nat → Int32} {s_p0_lines : Nat → Int64} {s_p0_marks : Nat → Int32} {s_p0_newRow : Nat → Int64} {s_p0_points : Nat → Int32} {x_1 : Int32} {x_2 : Int32} {x_3 : Int32} {Q : Int32 → (Int32) → (Int32) → (Int32) → (Int64) → (Nat → Int32) → (Nat → Int32) → (Nat → Int32) → (Nat → Int64) → (Nat → Int32) → (Nat → Int64) → (Nat → Int32) → Prop} (h : w_X7_derive x_1 x_2 x_3 s_p0_finding s_p0_newPoints s_p0_newLines s_p0_faultAt s_p0_findings s_p0_kinds s_p0_lineCount s_p0_lines s_p0_marks s_p0_newRow s_p0_points Q) : vCi l D (vT T) yX7_derive wsX7_derive (vr 5 123) [.ref o_p0, .int x_1, .int x_2, .int x_3] (cl_X7_derive T o_p0 a_p0 s_p0_finding s_p0_asked s_p0_newPoints s_p0_newLines s_p0_faultAt s_p0_tries s_p0_things s_p0_goals s_p0_level s_p0_findings s_p0_kinds s_p0_lineCount s_p0_lines s_p0_marks s_p0_newRow s_p0_points) (fun v (u : (Int32) × (Int32) × (Int32) × (Int64) × (Nat → Int32) × (Nat → Int32) × (Nat → Int32) × (Nat → Int64) × (Nat → Int32) × (Nat → Int64) × (Nat → Int32)) => Q v u.1 u.2.1 u.2.2.1 u.2.2.2.1 u.2.2.2.2.1 u.2.2.2.2.2.1 u.2.2.2.2.2.2.1 u.2.2.2.2.2.2.2.1 u.2.2.2.2.2.2.2.2.1 u.2.2.2.2.2.2.2.2.2.1 u.2.2.2.2.2.2.2.2.2.2) (fun (u : (Int32) × (Int32) × (Int32) × (Int64) × (Nat → Int32) × (Nat → Int32) × (Nat → Int32) × (Nat → Int64) × (Nat → Int32) × (Nat → Int64) × (Nat → Int32)) => (cl_X7_derive T o_p0 a_p0 u.1 s_p0_asked u.2.1 u.2.2.1 u.2.2.2.1 s_p0_tries s_p0_things s_p0_goals s_p0_level u.2.2.2.2.1 u.2.2.2.2.2.1 u.2.2.2.2.2.2.1 u.2.2.2.2.2.2.2.1 u.2.2.2.2.2.2.2.2.1 u.2.2.2.2.2.2.2.2.2.1 u.2.2.2.2.2.2.2.2.2.2)) := by
  refine vC_i (cc := cX7_derive) (nL := 13) (by decide +kernel) rfl ⟨rfl, rfl⟩ (Nat.le_of_ble_eq_true rfl) rfl ?_
  intro E el eD X r
  unfold w_X7_derive at h
  refine v_iload_n X 1 dX7_derive_0 rfl rfl ?_
  refine v_callSi0 X (As := [.int x_1]) (rest := []) 1 (c_X7_isNumber (l := vl E) (D := vD E) (T := T) (x_0 := x_1) h) gX7_derive_X7_isNumber rfl rfl (by decide +kernel) ⟨Nat.zero_le _, Nat.zero_le _⟩ ⟨rfl, rfl, by decide, by decide⟩ (Nat.le_of_ble_eq_true rfl) rfl dX7_derive_1 (fun r_1 h => ?_)
  refine v_if_eq X (tgt := 14) dX7_derive_4 (by decide) (fun c_4 => ?_) (fun c_4 => ?_)
  · replace h := h.1 c_4
    refine v_lv (lv' := []) [] rfl ?_
    exact k_X7_derive_14 X r h
  · replace h := h.2 c_4
    refine v_iload_n X 3 dX7_derive_7 rfl rfl ?_
    refine v_callSi0 X (As := [.int x_3]) (rest := []) 1 (c_X7_isNumber (l := vl E) (D := vD E) (T := T) (x_0 := x_3) h) gX7_derive_X7_isNumber rfl rfl (by decide +kernel) ⟨Nat.zero_le _, Nat.zero_le _⟩ ⟨rfl, rfl, by decide, by decide⟩ (Nat.le_of_ble_eq_true rfl) rfl dX7_derive_8 (fun r_8 h => ?_)
    refine v_if_ne X (tgt := 16) dX7_derive_11 (by decide) (fun c_11 => ?_) (fun c_11 => ?_)
    · replace h := h.1 c_11
      refine v_aload_n X 0 dX7_derive_16 rfl rfl ?_
      refine v_iload_n X 1 dX7_derive_17 rfl rfl ?_
      refine v_callVi X (As := [.int x_1]) (rest := []) 1 0 (c_X7_looked (l := vl E) (D := vD E) (T := T) (o_p0 := o_p0) (a_p0 := a_p0) (s_p0_finding := s_p0_finding) (s_p0_asked := s_p0_asked) (s_p0_newPoints := s_p0_newPoints) (s_p0_newLines := s_p0_newLines) (s_p0_faultAt := s_p0_faultAt) (s_p0_tries := s_p0_tries) (s_p0_things := s_p0_things) (s_p0_goals := s_p0_goals) (s_p0_level := s_p0_level) (s_p0_findings := s_p0_findings) (s_p0_points := s_p0_points) (x_1 := x_1) h) gX7_derive_X7_looked rfl rfl (by decide +kernel) ⟨Nat.zero_le _, Nat.zero_le _⟩ ⟨rfl, rfl, by decide, by decide⟩ (Nat.le_of_ble_eq_true rfl) rfl rfl (wr := [vI T (a_p0 5) 6 s_p0_kinds, vI T (a_p0 4) 6 s_p0_lineCount, vJ T (a_p0 7) 270 s_p0_lines, vI T (a_p0 6) 6 s_p0_marks, vJ T (a_p0 10) 120 s_p0_newRow]) [0, 1, 7] [2, 3, 4, 5, 6] rfl rfl rfl rfl (by decide) rfl dX7_derive_18 (fun r_18 u h => ?_)
      obtain ⟨u_18_0, u_18_1⟩ := u
      dsimp only at h
      refine v_ws (ws' := (cl_X7_derive T o_p0 a_p0 u_18_0 s_p0_asked s_p0_newPoints s_p0_newLines s_p0_faultAt s_p0_tries s_p0_things s_p0_goals s_p0_level u_18_1 s_p0_kinds s_p0_lineCount s_p0_lines s_p0_marks s_p0_newRow s_p0_points)) [5, 6, 0, 1, 2, 3, 4, 7] rfl rfl ?_
      refine v_istore X (lv' := [(4, .int r_18), (0, .ref o_p0), (1, .int x_1), (2, .int x_2), (3, .int x_3)]) dX7_derive_21 (by decide) rfl ?_
      refine v_iload X 0 dX7_derive_23 rfl ?_
      refine v_if_ge X (tgt := 31) dX7_derive_25 (by decide) (fun c_25 => ?_) (fun c_25 => ?_)
      · replace h := h.1 c_25
        refine v_aload_n X 1 dX7_derive_31 rfl rfl ?_
        refine v_iload_n X 2 dX7_derive_32 rfl rfl ?_
        refine v_iload_n X 3 dX7_derive_33 rfl rfl ?_
        refine v_callVi X (As := [.int x_1, .int x_2]) (rest := []) 2 0 (c_X7_isPoint (l := vl E) (D := vD E) (T := T) (o_p0 := o_p0) (a_p0 := a_p0) (s_p0_finding := u_18_0) (s_p0_asked := s_p0_asked) (s_p0_newPoints := s_p0_newPoints) (s_p0_newLines := s_p0_newLines) (s_p0_faultAt := s_p0_faultAt) (s_p0_tries := s_p0_tries) (s_p0_things := s_p0_things) (s_p0_goals := s_p0_goals) (s_p0_level := s_p0_level) (s_p0_points := s_p0_points) (x_1 := x_1) (x_2 := x_2) h) gX7_derive_X7_isPoint rfl rfl (by decide +kernel) ⟨Nat.zero_le _, Nat.zero_le _⟩ ⟨rfl, rfl, by decide, by decide⟩ (Nat.le_of_ble_eq_true rfl) rfl rfl (wr := [vI T (a_p0 1) 6 u_18_1, vI T (a_p0 5) 6 s_p0_kinds, vI T (a_p0 4) 6 s_p0_lineCount, vJ T (a_p0 7) 270 s_p0_lines, vI T (a_p0 6) 6 s_p0_marks, vJ T (a_p0 10) 120 s_p0_newRow]) [0, 7] [1, 2, 3, 4, 5, 6] rfl rfl rfl rfl (by decide) rfl dX7_derive_34 (fun r_34 u h => ?_)
        refine v_ws (ws' := (cl_X7_derive T o_p0 a_p0 u_18_0 s_p0_asked s_p0_newPoints s_p0_newLines s_p0_faultAt s_p0_tries s_p0_things s_p0_goals s_p0_level u_18_1 s_p0_kinds s_p0_lineCount s_p0_lines s_p0_marks s_p0_newRow s_p0_points)) [6, 0, 1, 2, 3, 4, 5, 7] rfl rfl ?_
        refine v_if_ne X (tgt := 46) dX7_derive_37 (by decide) (fun c_37 => ?_) (fun c_37 => ?_)
        · replace h := h.1 c_37
          refine v_aload_n X 1 dX7_derive_46 rfl rfl ?_
          refine v_iload_n X 2 dX7_derive_47 rfl rfl ?_
          refine v_iconst X dX7_derive_48 (v := (0 : Int32)) (by decide) ?_
          refine v_callVi X (As := [.int x_1, .int (0 : Int32)]) (rest := []) 2 0 (c_X7_orderOf (l := vl E) (D := vD E) (T := T) (o_p0 := o_p0) (a_p0 := a_p0) (s_p0_finding := u_18_0) (s_p0_asked := s_p0_asked) (s_p0_newPoints := s_p0_newPoints) (s_p0_newLines := s_p0_newLines) (s_p0_faultAt := s_p0_faultAt) (s_p0_tries := s_p0_tries) (s_p0_things := s_p0_things) (s_p0_goals := s_p0_goals) (s_p0_level := s_p0_level) (s_p0_lineCount := s_p0_lineCount) (s_p0_lines := s_p0_lines) (s_p0_points := s_p0_points) (x_1 := x_1) (x_2 := (0 : Int32)) h) gX7_derive_X7_orderOf rfl rfl (by decide +kernel) ⟨Nat.zero_le _, Nat.zero_le _⟩ ⟨rfl, rfl, by decide, by decide⟩ (Nat.le_of_ble_eq_true rfl) rfl rfl (wr := [vI T (a_p0 1) 6 u_18_1, vI T (a_p0 5) 6 s_p0_kinds, vI T (a_p0 6) 6 s_p0_marks, vJ T (a_p0 10) 120 s_p0_newRow]) [0, 3, 4, 7] [1, 2, 5, 6] rfl rfl rfl rfl (by decide) rfl dX7_derive_49 (fun r_49 u h => ?_)
          refine v_ws (ws' := (cl_X7_derive T o_p0 a_p0 u_18_0 s_p0_asked s_p0_newPoints s_p0_newLines s_p0_faultAt s_p0_tries s_p0_things s_p0_goals s_p0_level u_18_1 s_p0_kinds s_p0_lineCount s_p0_lines s_p0_marks s_p0_newRow s_p0_points)) [4, 0, 1, 5, 6, 2, 3, 7] rfl rfl ?_
          refine v_istore X (lv' := [(5, .int r_49), (4, .int r_18), (0, .ref o_p0), (1, .int x_1), (2, .int x_2), (3, .int x_3)]) dX7_derive_52 (by decide) rfl ?_
          refine v_aload_n X 2 dX7_derive_54 rfl rfl ?_
          refine v_iload_n X 3 dX7_derive_55 rfl rfl ?_
          refine v_callVi X (As := [.int x_1]) (rest := []) 1 0 (c_X7_faultOf (l := vl E) (D := vD E) (T := T) (o_p0 := o_p0) (a_p0 := a_p0) (s_p0_finding := u_18_0) (s_p0_asked := s_p0_asked) (s_p0_newPoints := s_p0_newPoints) (s_p0_newLines := s_p0_newLines) (s_p0_faultAt := s_p0_faultAt) (s_p0_tries := s_p0_tries) (s_p0_things := s_p0_things) (s_p0_goals := s_p0_goals) (s_p0_level := s_p0_level) (s_p0_lineCount := s_p0_lineCount) (s_p0_lines := s_p0_lines) (s_p0_points := s_p0_points) (x_1 := x_1) h) gX7_derive_X7_faultOf rfl rfl (by decide +kernel) ⟨Nat.zero_le _, Nat.zero_le _⟩ ⟨rfl, rfl, by decide, by decide⟩ (Nat.le_of_ble_eq_true rfl) rfl rfl (wr := [vI T (a_p0 1) 6 u_18_1, vI T (a_p0 5) 6 s_p0_kinds, vI T (a_p0 6) 6 s_p0_marks, vJ T (a_p0 10) 120 s_p0_newRow]) [0, 3, 4, 7] [1, 2, 5, 6] rfl rfl rfl rfl (by decide) rfl dX7_derive_56 (fun r_56 u h => ?_)
          obtain ⟨u_56_0, rfl⟩ : ∃ z, z = u := ⟨_, rfl⟩
          refine v_ws (ws' := (cl_X7_derive T o_p0 a_p0 u_18_0 s_p0_asked s_p0_newPoints s_p0_newLines u_56_0 s_p0_tries s_p0_things s_p0_goals s_p0_level u_18_1 s_p0_kinds s_p0_lineCount s_p0_lines s_p0_marks s_p0_newRow s_p0_points)) [4, 0, 1, 5, 6, 2, 3, 7] rfl rfl ?_
          refine v_if_ne X (tgt := 90) dX7_derive_59 (by decide) (fun c_59 => ?_) (fun c_59 => ?_)
          · replace h := h.1 c_59
            refine v_lv (lv' := []) [] rfl ?_
            exact k_X7_derive_90 X r h
          · replace h := h.2 c_59
            refine v_iload X 0 dX7_derive_62 rfl ?_
            refine v_iconst X dX7_derive_64 (v := (2 : Int32)) (by decide) ?_
            refine v_icmp_lt X (tgt := 90) dX7_derive_65 (by decide) (fun c_65 => ?_) (fun c_65 => ?_)
            · replace h := h.1 c_65
              refine v_lv (lv' := []) [] rfl ?_
              exact k_X7_derive_90 X r h
            · replace h := h.2 c_65
              refine v_aload_n X 2 dX7_derive_68 rfl rfl ?_
              refine v_iload_n X 3 dX7_derive_69 rfl rfl ?_
              refine v_iconst X dX7_derive_70 (v := (1 : Int32)) (by decide) ?_
              refine v_callVi X (As := [.int x_1, .int (1 : Int32)]) (rest := []) 2 0 (c_X7_orderOf (l := vl E) (D := vD E) (T := T) (o_p0 := o_p0) (a_p0 := a_p0) (s_p0_finding := u_18_0) (s_p0_asked := s_p0_asked) (s_p0_newPoints := s_p0_newPoints) (s_p0_newLines := s_p0_newLines) (s_p0_faultAt := u_56_0) (s_p0_tries := s_p0_tries) (s_p0_things := s_p0_things) (s_p0_goals := s_p0_goals) (s_p0_level := s_p0_level) (s_p0_lineCount := s_p0_lineCount) (s_p0_lines := s_p0_lines) (s_p0_points := s_p0_points) (x_1 := x_1) (x_2 := (1 : Int32)) h) gX7_derive_X7_orderOf rfl rfl (by decide +kernel) ⟨Nat.zero_le _, Nat.zero_le _⟩ ⟨rfl, rfl, by decide, by decide⟩ (Nat.le_of_ble_eq_true rfl) rfl rfl (wr := [vI T (a_p0 1) 6 u_18_1, vI T (a_p0 5) 6 s_p0_kinds, vI T (a_p0 6) 6 s_p0_marks, vJ T (a_p0 10) 120 s_p0_newRow]) [0, 3, 4, 7] [1, 2, 5, 6] rfl rfl rfl rfl (by decide) rfl dX7_derive_71 (fun r_71 u h => ?_)
              refine v_ws (ws' := (cl_X7_derive T o_p0 a_p0 u_18_0 s_p0_asked s_p0_newPoints s_p0_newLines u_56_0 s_p0_tries s_p0_things s_p0_goals s_p0_level u_18_1 s_p0_kinds s_p0_lineCount s_p0_lines s_p0_marks s_p0_newRow s_p0_points)) [4, 0, 1, 5, 6, 2, 3, 7] rfl rfl ?_
              refine v_iload X 0 dX7_derive_74 rfl ?_
              refine v_icmp_ne X (tgt := 90) dX7_derive_76 (by decide) (fun c_76 => ?_) (fun c_76 => ?_)
              · replace h := h.1 c_76
                refine v_lv (lv' := []) [] rfl ?_
                exact k_X7_derive_90 X r h
              · replace h := h.2 c_76
                refine v_aload_n X 2 dX7_derive_79 rfl rfl ?_
                refine v_iload_n X 3 dX7_derive_80 rfl rfl ?_
                refine v_iload_n X 4 dX7_derive_81 rfl rfl ?_
                refine v_iload X 0 dX7_derive_82 rfl ?_
                refine v_callVi X (As := [.int x_1, .int x_2, .int r_49]) (rest := []) 3 0 (c_X7_isRegular (l := vl E) (D := vD E) (T := T) (o_p0 := o_p0) (a_p0 := a_p0) (s_p0_finding := u_18_0) (s_p0_asked := s_p0_asked) (s_p0_newPoints := s_p0_newPoints) (s_p0_newLines := s_p0_newLines) (s_p0_faultAt := u_56_0) (s_p0_tries := s_p0_tries) (s_p0_things := s_p0_things) (s_p0_goals := s_p0_goals) (s_p0_level := s_p0_level) (s_p0_lineCount := s_p0_lineCount) (s_p0_lines := s_p0_lines) (s_p0_points := s_p0_points) (x_1 := x_1) (x_2 := x_2) (x_3 := r_49) h) gX7_derive_X7_isRegular rfl rfl (by decide +kernel) ⟨Nat.zero_le _, Nat.zero_le _⟩ ⟨rfl, rfl, by decide, by decide⟩ (Nat.le_of_ble_eq_true rfl) rfl rfl (wr := [vI T (a_p0 1) 6 u_18_1, vI T (a_p0 5) 6 s_p0_kinds, vI T (a_p0 6) 6 s_p0_marks, vJ T (a_p0 10) 120 s_p0_newRow]) [0, 3, 4, 7] [1, 2, 5, 6] rfl rfl rfl rfl (by decide) rfl dX7_derive_84 (fun r_84 u h => ?_)
                refine v_ws (ws' := (cl_X7_derive T o_p0 a_p0 u_18_0 s_p0_asked s_p0_newPoints s_p0_newLines u_56_0 s_p0_tries s_p0_things s_p0_goals s_p0_level u_18_1 s_p0_kinds s_p0_lineCount s_p0_lines s_p0_marks s_p0_newRow s_p0_points)) [4, 0, 1, 5, 6, 2, 3, 7] rfl rfl ?_
                refine v_if_ne X (tgt := 93) dX7_derive_87 (by decide) (fun c_87 => ?_) (fun c_87 => ?_)
                · replace h := h.1 c_87
                  refine v_aload_n X 2 dX7_derive_93 rfl rfl ?_
                  refine v_iload_n X 3 dX7_derive_94 rfl rfl ?_
                  refine v_callVl X (As := [.int x_1]) (rest := []) 1 0 (c_X7_allOf (l := vl E) (D := vD E) (T := T) (o_p0 := o_p0) (a_p0 := a_p0) (s_p0_finding := u_18_0) (s_p0_asked := s_p0_asked) (s_p0_newPoints := s_p0_newPoints) (s_p0_newLines := s_p0_newLines) (s_p0_faultAt := u_56_0) (s_p0_tries := s_p0_tries) (s_p0_things := s_p0_things) (s_p0_goals := s_p0_goals) (s_p0_level := s_p0_level) (s_p0_points := s_p0_points) (x_1 := x_1) h) gX7_derive_X7_allOf rfl rfl (by decide +kernel) ⟨Nat.zero_le _, Nat.zero_le _⟩ ⟨rfl, rfl, by decide, by decide⟩ (Nat.le_of_ble_eq_true rfl) rfl rfl (wr := [vI T (a_p0 1) 6 u_18_1, vI T (a_p0 5) 6 s_p0_kinds, vI T (a_p0 4) 6 s_p0_lineCount, vJ T (a_p0 7) 270 s_p0_lines, vI T (a_p0 6) 6 s_p0_marks, vJ T (a_p0 10) 120 s_p0_newRow]) [0, 7] [1, 2, 3, 4, 5, 6] rfl rfl rfl rfl (by decide) rfl dX7_derive_95 (fun r_95 u h => ?_)
                  refine v_ws (ws' := (cl_X7_derive T o_p0 a_p0 u_18_0 s_p0_asked s_p0_newPoints s_p0_newLines u_56_0 s_p0_tries s_p0_things s_p0_goals s_p0_level u_18_1 s_p0_kinds s_p0_lineCount s_p0_lines s_p0_marks s_p0_newRow s_p0_points)) [6, 0, 1, 2, 3, 4, 5, 7] rfl rfl ?_
                  refine v_aload_n X 2 dX7_derive_98 rfl rfl ?_
                  refine v_iload_n X 3 dX7_derive_99 rfl rfl ?_
                  refine v_iload_n X 4 dX7_derive_100 rfl rfl ?_
                  refine v_callVl X (As := [.int x_1, .int x_2]) (rest := [.long r_95]) 2 0 (c_X7_nearTo (l := vl E) (D := vD E) (T := T) (o_p0 := o_p0) (a_p0 := a_p0) (s_p0_finding := u_18_0) (s_p0_asked := s_p0_asked) (s_p0_newPoints := s_p0_newPoints) (s_p0_newLines := s_p0_newLines) (s_p0_faultAt := u_56_0) (s_p0_tries := s_p0_tries) (s_p0_things := s_p0_things) (s_p0_goals := s_p0_goals) (s_p0_level := s_p0_level) (s_p0_lineCount := s_p0_lineCount) (s_p0_lines := s_p0_lines) (x_1 := x_1) (x_2 := x_2) h) gX7_derive_X7_nearTo rfl rfl (by decide +kernel) ⟨Nat.zero_le _, Nat.zero_le _⟩ ⟨rfl, rfl, by decide, by decide⟩ (Nat.le_of_ble_eq_true rfl) rfl rfl (wr := [vI T (a_p0 1) 6 u_18_1, vI T (a_p0 5) 6 s_p0_kinds, vI T (a_p0 6) 6 s_p0_marks, vJ T (a_p0 10) 120 s_p0_newRow, vI T (a_p0 3) 6 s_p0_points]) [0, 3, 4] [1, 2, 5, 6, 7] rfl rfl rfl rfl (by decide) rfl dX7_derive_101 (fun r_101 u h => ?_)
                  refine v_ws (ws' := (cl_X7_derive T o_p0 a_p0 u_18_0 s_p0_asked s_p0_newPoints s_p0_newLines u_56_0 s_p0_tries s_p0_things s_p0_goals s_p0_level u_18_1 s_p0_kinds s_p0_lineCount s_p0_lines s_p0_marks s_p0_newRow s_p0_points)) [5, 0, 1, 6, 7, 2, 3, 4] rfl rfl ?_
                  refine v_ldc2 X (v := (-1 : Int64)) (List.mem_of_getElem? (i := 1) rfl) dX7_derive_104 ?_
                  refine v_lxor X dX7_derive_107 ?_
                  refine v_land X dX7_derive_108 ?_
                  refine v_lstore X (lv' := [(6, .long (r_95 &&& (r_101 ^^^ (-1 : Int64)))), (5, .int r_49), (4, .int r_18), (0, .ref o_p0), (1, .int x_1), (2, .int x_2), (3, .int x_3)]) dX7_derive_109 (by decide) rfl ?_
                  refine v_aload_n X 3 dX7_derive_111 rfl rfl ?_
                  refine v_lload X 0 dX7_derive_112 rfl ?_
                  refine v_callSi0 X (As := [.long (r_95 &&& (r_101 ^^^ (-1 : Int64)))]) (rest := [.ref o_p0]) 1 (c_X7_bits (l := vl E) (D := vD E) (T := T) (x_0 := (r_95 &&& (r_101 ^^^ (-1 : Int64)))) h) gX7_derive_X7_bits rfl rfl (by decide +kernel) ⟨Nat.zero_le _, Nat.zero_le _⟩ ⟨rfl, rfl, by decide, by decide⟩ (Nat.le_of_ble_eq_true rfl) rfl dX7_derive_114 (fun r_114 h => ?_)
                  refine v_put X (ws' := (cl_X7_derive T o_p0 a_p0 u_18_0 s_p0_asked r_114 s_p0_newLines u_56_0 s_p0_tries s_p0_things s_p0_goals s_p0_level u_18_1 s_p0_kinds s_p0_lineCount s_p0_lines s_p0_marks s_p0_newRow s_p0_points)) 0 8 (F := TX7) (N := 33) iX7_derive_X7 rfl tyX7 tyX7_ok nmX7 rfl (by decide) (List.mem_of_getElem? (i := 2) rfl) rfl rfl rfl rfl rfl (Nat.le_of_ble_eq_true rfl) rfl dX7_derive_117 ?_
                  refine v_aload_n X 3 dX7_derive_120 rfl rfl ?_
                  refine v_iconst X dX7_derive_121 (v := (0 : Int32)) (by decide) ?_
                  refine v_put X (ws' := (cl_X7_derive T o_p0 a_p0 u_18_0 s_p0_asked r_114 (0 : Int32) u_56_0 s_p0_tries s_p0_things s_p0_goals s_p0_level u_18_1 s_p0_kinds s_p0_lineCount s_p0_lines s_p0_marks s_p0_newRow s_p0_points)) 0 9 (F := TX7) (N := 33) iX7_derive_X7 rfl tyX7 tyX7_ok nmX7 rfl (by decide) (List.mem_of_getElem? (i := 3) rfl) rfl rfl rfl rfl rfl (Nat.le_of_ble_eq_true rfl) rfl dX7_derive_122 ?_
                  refine v_iconst X dX7_derive_125 (v := (0 : Int32)) (by decide) ?_
                  refine v_istore X (lv' := [(8, .int (0 : Int32)), (6, .long (r_95 &&& (r_101 ^^^ (-1 : Int64)))), (5, .int r_49), (4, .int r_18), (0, .ref o_p0), (1, .int x_1), (2, .int x_2), (3, .int x_3)]) dX7_derive_126 (by decide) rfl ?_
                  refine v_lv (lv' := [(0, .ref o_p0), (1, .int x_1), (2, .int x_2), (3, .int x_3), (6, .long (r_95 &&& (r_101 ^^^ (-1 : Int64)))), (8, .int (0 : Int32))]) [4, 5, 6, 7, 1, 0] rfl ?_
                  obtain ⟨n_, h⟩ := h
                  exact k_X7_derive_128 X r n_ _ _ _ h
                · replace h := h.2 c_87
                  refine v_lv (lv' := []) [] rfl ?_
                  exact k_X7_derive_90 X r h
        · replace h := h.2 c_37
          refine v_aload_n X 1 dX7_derive_40 rfl rfl ?_
          refine v_iconst X dX7_derive_41 (v := (2 : Int32)) (by decide) ?_
          refine v_callVi X (As := [.int (2 : Int32)]) (rest := []) 1 0 (c_X7_meets (l := vl E) (D := vD E) (T := T) (o_p0 := o_p0) (a_p0 := a_p0) (s_p0_finding := u_18_0) (s_p0_asked := s_p0_asked) (s_p0_newPoints := s_p0_newPoints) (s_p0_newLines := s_p0_newLines) (s_p0_faultAt := s_p0_faultAt) (s_p0_tries := s_p0_tries) (s_p0_things := s_p0_things) (s_p0_goals := s_p0_goals) (s_p0_level := s_p0_level) (s_p0_findings := u_18_1) (x_1 := (2 : Int32)) h) gX7_derive_X7_meets rfl rfl (by decide +kernel) ⟨Nat.zero_le _, Nat.zero_le _⟩ ⟨rfl, rfl, by decide, by decide⟩ (Nat.le_of_ble_eq_true rfl) rfl rfl (wr := [vI T (a_p0 5) 6 s_p0_kinds, vI T (a_p0 4) 6 s_p0_lineCount, vJ T (a_p0 7) 270 s_p0_lines, vI T (a_p0 6) 6 s_p0_marks, vJ T (a_p0 10) 120 s_p0_newRow, vI T (a_p0 3) 6 s_p0_points]) [0, 1] [2, 3, 4, 5, 6, 7] rfl rfl rfl rfl (by decide) rfl dX7_derive_42 (fun r_42 u h => ?_)
          obtain ⟨u_42_0, u_42_1⟩ := u
          dsimp only at h
          refine v_ws (ws' := (cl_X7_derive T o_p0 a_p0 u_42_0 s_p0_asked s_p0_newPoints s_p0_newLines s_p0_faultAt s_p0_tries s_p0_things s_p0_goals s_p0_level u_42_1 s_p0_kinds s_p0_lineCount s_p0_lines s_p0_marks s_p0_newRow s_p0_points)) [6, 7, 0, 1, 2, 3, 4, 5] rfl rfl ?_
          exact r _ _ _ (u_42_0, s_p0_newPoints, s_p0_newLines, s_p0_faultAt, u_42_1, s_p0_kinds, s_p0_lineCount, s_p0_lines, s_p0_marks, s_p0_newRow, s_p0_points) _ dX7_derive_45 h rfl
      · replace h := h.2 c_25
        refine v_iload X 0 dX7_derive_28 rfl ?_
        exact r _ _ _ (u_18_0, s_p0_newPoints, s_p0_newLines, s_p0_faultAt, u_18_1, s_p0_kinds, s_p0_lineCount, s_p0_lines, s_p0_marks, s_p0_newRow, s_p0_points) _ dX7_derive_30 h rfl
    · replace h := h.2 c_11
      refine v_lv (lv' := []) [] rfl ?_
      exact k_X7_derive_14 X r h
-- X7_part
abbrev cl_X7_part (T : Nat → ClassId) (o_p0 : Nat) (a_p0 : Nat → Nat) (s_p0_finding : Int32) (s_p0_asked : Int64) (s_p0_newPoints : Int32) (s_p0_newLines : Int32) (s_p0_faultAt : Int64) (s_p0_tries : Int32) (s_p0_things : Int32) (s_p0_goals : Int32) (s_p0_level : Int32) (s_p0_findings : Nat → Int32) (s_p0_kinds : Nat → Int32) (s_p0_lineCount : Nat → Int32) (s_p0_lines : Nat → Int64) (s_p0_marks : Nat → Int32) (s_p0_newRow : Nat → Int64) (s_p0_points : Nat → Int32) : va_W := [vO o_p0 4 [.int s_p0_finding, .ref (a_p0 1), .long s_p0_asked, .ref (a_p0 3), .ref (a_p0 4), .ref (a_p0 5), .ref (a_p0 6), .ref (a_p0 7), .int s_p0_newPoints, .int s_p0_newLines, .ref (a_p0 10), .ref (a_p0 11), .long s_p0_faultAt, .int s_p0_tries, .int s_p0_things, .int s_p0_goals, .ref (a_p0 16), .ref (a_p0 17), .ref (a_p0 18), .ref (a_p0 19), .ref (a_p0 20), .ref (a_p0 21), .int s_p0_level, .ref (a_p0 23), .ref (a_p0 24), .ref (a_p0 25), .ref (a_p0 26), .ref (a_p0 27), .ref (a_p0 28), .ref (a_p0 29), .ref (a_p0 30), .ref (a_p0 31), .ref (a_p0 32)], vI T (a_p0 1) 6 s_p0_findings, vI T (a_p0 5) 6 s_p0_kinds, vI T (a_p0 4) 6 s_p0_lineCount, vJ T (a_p0 7) 270 s_p0_lines, vI T (a_p0 6) 6 s_p0_marks, vJ T (a_p0 10) 120 s_p0_newRow, vI T (a_p0 3) 6 s_p0_points]
abbrev r_X7_part (E : vE) (T : Nat → ClassId) (o_p0 : Nat) (a_p0 : Nat → Nat) (s_p0_asked : Int64) (s_p0_faultAt : Int64) (s_p0_tries : Int32) (s_p0_things : Int32) (s_p0_goals : Int32) (s_p0_level : Int32) (Q : Int32 → (Int32) → (Int32) → (Int32) → (Nat → Int32) → (Nat → Int32) → (Nat → Int32) → (Nat → Int64) → (Nat → Int32) → (Nat → Int64) → (Nat → Int32) → Prop) : Prop := vRi E cX7_part (fun v (u : (Int32) × (Int32) × (Int32) × (Nat → Int32) × (Nat → Int32) × (Nat → Int32) × (Nat → Int64) × (Nat → Int32) × (Nat → Int64) × (Nat → Int32)) => Q v u.1 u.2.1 u.2.2.1 u.2.2.2.1 u.2.2.2.2.1 u.2.2.2.2.2.1 u.2.2.2.2.2.2.1 u.2.2.2.2.2.2.2.1 u.2.2.2.2.2.2.2.2.1 u.2.2.2.2.2.2.2.2.2) (fun (u : (Int32) × (Int32) × (Int32) × (Nat → Int32) × (Nat → Int32) × (Nat → Int32) × (Nat → Int64) × (Nat → Int32) × (Nat → Int64) × (Nat → Int32)) => (cl_X7_part T o_p0 a_p0 u.1 s_p0_asked u.2.1 u.2.2.1 s_p0_faultAt s_p0_tries s_p0_things s_p0_goals s_p0_level u.2.2.2.1 u.2.2.2.2.1 u.2.2.2.2.2.1 u.2.2.2.2.2.2.1 u.2.2.2.2.2.2.2.1 u.2.2.2.2.2.2.2.2.1 u.2.2.2.2.2.2.2.2.2))
def w_X7_part_144 (t_0 : Int32) (s_p0_finding : Int32) (s_p0_newPoints : Int32) (s_p0_newLines : Int32) (s_p0_findings : Nat → Int32) (s_p0_kinds : Nat → Int32) (s_p0_lineCount : Nat → Int32) (s_p0_lines : Nat → Int64) (s_p0_marks : Nat → Int32) (s_p0_newRow : Nat → Int64) (s_p0_points : Nat → Int32) (Q : Int32 → (Int32) → (Int32) → (Int32) → (Nat → Int32) → (Nat → Int32) → (Nat → Int32) → (Nat → Int64) → (Nat → Int32) → (Nat → Int64) → (Nat → Int32) → Prop) : Prop := (Q t_0 s_p0_finding s_p0_newPoints s_p0_newLines s_p0_findings s_p0_kinds s_p0_lineCount s_p0_lines s_p0_marks s_p0_newRow s_p0_points)
def w_X7_part_118 (x_1 : Int32) (x_2 : Int64) (x_4 : Int32) (x_6 : Int32) (s_p0_finding : Int32) (s_p0_newPoints : Int32) (s_p0_newLines : Int32) (s_p0_findings : Nat → Int32) (s_p0_kinds : Nat → Int32) (s_p0_lineCount : Nat → Int32) (s_p0_lines : Nat → Int64) (s_p0_marks : Nat → Int32) (s_p0_newRow : Nat → Int64) (s_p0_points : Nat → Int32) (K_66 : (Int32) → (Int32) → (Nat → Int64) → Prop) (Q : Int32 → (Int32) → (Int32) → (Int32) → (Nat → Int32) → (Nat → Int32) → (Nat → Int32) → (Nat → Int64) → (Nat → Int32) → (Nat → Int64) → (Nat → Int32) → Prop) : Prop := (K_66 (x_6 + (1 : Int32)) s_p0_newLines s_p0_newRow)
def w_X7_part_66s (x_1 : Int32) (x_2 : Int64) (x_4 : Int32) (s_p0_finding : Int32) (s_p0_newPoints : Int32) (s_p0_findings : Nat → Int32) (s_p0_kinds : Nat → Int32) (s_p0_lineCount : Nat → Int32) (s_p0_lines : Nat → Int64) (s_p0_marks : Nat → Int32) (s_p0_points : Nat → Int32) (Q : Int32 → (Int32) → (Int32) → (Int32) → (Nat → Int32) → (Nat → Int32) → (Nat → Int32) → (Nat → Int64) → (Nat → Int32) → (Nat → Int64) → (Nat → Int32) → Prop) (K_66 : (Int32) → (Int32) → (Nat → Int64) → Prop) (x_6 : Int32) (s_p0_newLines : Int32) (s_p0_newRow : Nat → Int64) : Prop := (vp_in x_1 6 ∧ (((s_p0_lineCount (x_1).toNatClampNeg) ≤ x_6 → ((¬ s_p0_newLines = 0 → (w_X7_keep x_4 (3 : Int32) (0 : Int32) s_p0_newPoints s_p0_newLines s_p0_kinds s_p0_lineCount s_p0_lines s_p0_marks s_p0_newRow s_p0_points (fun (r_141 : Int32) (u_141_0 : Nat → Int32) (u_141_1 : Nat → Int32) (u_141_2 : Nat → Int64) (u_141_3 : Nat → Int32) (u_141_4 : Nat → Int32) => (w_X7_part_144 r_141 s_p0_finding s_p0_newPoints s_p0_newLines s_p0_findings u_141_0 u_141_1 u_141_2 u_141_3 s_p0_newRow u_141_4 Q)))) ∧ (s_p0_newLines = 0 → (w_X7_part_144 (-4 : Int32) s_p0_finding s_p0_newPoints s_p0_newLines s_p0_findings s_p0_kinds s_p0_lineCount s_p0_lines s_p0_marks s_p0_newRow s_p0_points Q)))) ∧ (¬ (s_p0_lineCount (x_1).toNatClampNeg) ≤ x_6 → (vp_in (((45 : Int32) * x_1) + x_6) 270 ∧ (w_X7_bits ((s_p0_lines ((((45 : Int32) * x_1) + x_6)).toNatClampNeg) &&& x_2) (fun (r_91 : Int32) => ((r_91 ≤ (1 : Int32) → (w_X7_part_118 x_1 x_2 x_4 x_6 s_p0_finding s_p0_newPoints s_p0_newLines s_p0_findings s_p0_kinds s_p0_lineCount s_p0_lines s_p0_marks s_p0_newRow s_p0_points K_66 Q)) ∧ (¬ r_91 ≤ (1 : Int32) → (vp_in (((45 : Int32) * x_1) + x_6) 270 ∧ (w_X7_closed (s_p0_lines ((((45 : Int32) * x_1) + x_6)).toNatClampNeg) x_2 (fun (r_112 : Int64) => (w_X7_add r_112 s_p0_newLines s_p0_newRow (fun (u_115_0 : Int32) (u_115_1 : Nat → Int64) => (w_X7_part_118 x_1 x_2 x_4 x_6 s_p0_finding s_p0_newPoints u_115_0 s_p0_findings s_p0_kinds s_p0_lineCount s_p0_lines s_p0_marks u_115_1 s_p0_points K_66 Q))))))))))))))
def w_X7_part_66 (x_1 : Int32) (x_2 : Int64) (x_4 : Int32) (s_p0_finding : Int32) (s_p0_newPoints : Int32) (s_p0_findings : Nat → Int32) (s_p0_kinds : Nat → Int32) (s_p0_lineCount : Nat → Int32) (s_p0_lines : Nat → Int64) (s_p0_marks : Nat → Int32) (s_p0_points : Nat → Int32) (Q : Int32 → (Int32) → (Int32) → (Int32) → (Nat → Int32) → (Nat → Int32) → (Nat → Int32) → (Nat → Int64) → (Nat → Int32) → (Nat → Int64) → (Nat → Int32) → Prop) : Nat → (Int32) → (Int32) → (Nat → Int64) → Prop
  | 0 => fun _ _ _ => False
  | n_ + 1 => w_X7_part_66s x_1 x_2 x_4 s_p0_finding s_p0_newPoints s_p0_findings s_p0_kinds s_p0_lineCount s_p0_lines s_p0_marks s_p0_points Q (w_X7_part_66 x_1 x_2 x_4 s_p0_finding s_p0_newPoints s_p0_findings s_p0_kinds s_p0_lineCount s_p0_lines s_p0_marks s_p0_points Q n_)
def w_X7_part_15 (s_p0_finding : Int32) (s_p0_newPoints : Int32) (s_p0_newLines : Int32) (s_p0_findings : Nat → Int32) (s_p0_kinds : Nat → Int32) (s_p0_lineCount : Nat → Int32) (s_p0_lines : Nat → Int64) (s_p0_marks : Nat → Int32) (s_p0_newRow : Nat → Int64) (s_p0_points : Nat → Int32) (Q : Int32 → (Int32) → (Int32) → (Int32) → (Nat → Int32) → (Nat → Int32) → (Nat → Int32) → (Nat → Int64) → (Nat → Int32) → (Nat → Int64) → (Nat → Int32) → Prop) : Prop := (Q (-1 : Int32) s_p0_finding s_p0_newPoints s_p0_newLines s_p0_findings s_p0_kinds s_p0_lineCount s_p0_lines s_p0_marks s_p0_newRow s_p0_points)
def w_X7_part (x_1 : Int32) (x_2 : Int64) (x_4 : Int32) (s_p0_finding : Int32) (s_p0_newPoints : Int32) (s_p0_newLines : Int32) (s_p0_findings : Nat → Int32) (s_p0_kinds : Nat → Int32) (s_p0_lineCount : Nat → Int32) (s_p0_lines : Nat → Int64) (s_p0_marks : Nat → Int32) (s_p0_newRow : Nat → Int64) (s_p0_points : Nat → Int32) (Q : Int32 → (Int32) → (Int32) → (Int32) → (Nat → Int32) → (Nat → Int32) → (Nat → Int32) → (Nat → Int64) → (Nat → Int32) → (Nat → Int64) → (Nat → Int32) → Prop) : Prop := (w_X7_isNumber x_1 (fun (r_1 : Int32) => ((r_1 = 0 → (w_X7_part_15 s_p0_finding s_p0_newPoints s_p0_newLines s_p0_findings s_p0_kinds s_p0_lineCount s_p0_lines s_p0_marks s_p0_newRow s_p0_points Q)) ∧ (¬ r_1 = 0 → (w_X7_isNumber x_4 (fun (r_9 : Int32) => ((¬ r_9 = 0 → (w_X7_looked x_1 s_p0_finding s_p0_findings s_p0_points (fun (r_19 : Int32) (u_19_0 : Int32) (u_19_1 : Nat → Int32) => ((0 ≤ r_19 → (w_X7_allOf x_1 s_p0_points (fun (r_35 : Int64) => (((lg_cmp (x_2 &&& (r_35 ^^^ (-1 : Int64))) (0 : Int64)) = 0 → (w_X7_bits x_2 (fun (r_52 : Int32) => (∃ n_, w_X7_part_66 x_1 x_2 x_4 u_19_0 r_52 u_19_1 s_p0_kinds s_p0_lineCount s_p0_lines s_p0_marks s_p0_points Q n_ (0 : Int32) (0 : Int32) s_p0_newRow)))) ∧ (¬ (lg_cmp (x_2 &&& (r_35 ^^^ (-1 : Int64))) (0 : Int64)) = 0 → (Q (-1 : Int32) u_19_0 s_p0_newPoints s_p0_newLines u_19_1 s_p0_kinds s_p0_lineCount s_p0_lines s_p0_marks s_p0_newRow s_p0_points)))))) ∧ (¬ 0 ≤ r_19 → (Q r_19 u_19_0 s_p0_newPoints s_p0_newLines u_19_1 s_p0_kinds s_p0_lineCount s_p0_lines s_p0_marks s_p0_newRow s_p0_points)))))) ∧ (r_9 = 0 → (w_X7_part_15 s_p0_finding s_p0_newPoints s_p0_newLines s_p0_findings s_p0_kinds s_p0_lineCount s_p0_lines s_p0_marks s_p0_newRow s_p0_points Q)))))))))
-- X7_part
theorem iX7_part_X7 : ∀ w ∈ wsX70, w ∈ wsX7_part := by decide +kernel
set_option maxHeartbeats 4000000 in
set_option maxRecDepth 100000 in
theorem k_X7_part_144 {E : vE} {T : Nat → ClassId} {o_p0 : Nat} {a_p0 : Nat → Nat} {s_p0_finding : Int32} {s_p0_asked : Int64} {s_p0_newPoints : Int32} {s_p0_newLines : Int32} {s_p0_faultAt : Int64} {s_p0_tries : Int32} {s_p0_things : Int32} {s_p0_goals : Int32} {s_p0_level : Int32} {s_p0_findings : Nat → Int32} {s_p0_kinds : Nat → Int32} {s_p0_lineCount : Nat → Int32} {s_p0_lines : Nat → Int64} {s_p0_marks : Nat → Int32} {s_p0_newRow : Nat → Int64} {s_p0_points : Nat → Int32} {t_0 : Int32} {Q : Int32 → (Int32) → (Int32) → (Int32) → (Nat → Int32) → (Nat → Int32) → (Nat → Int32) → (Nat → Int64) → (Nat → Int32) → (Nat → Int64) → (Nat → Int32) → Prop} (X : vX E cX7_part 7 RX7 wsX7_part (vT T) (vr 3 63)) (r : r_X7_part E T o_p0 a_p0 s_p0_asked s_p0_faultAt s_p0_tries s_p0_things s_p0_goals s_p0_level Q) (h : w_X7_part_144 t_0 s_p0_finding s_p0_newPoints s_p0_newLines s_p0_findings s_p0_kinds s_p0_lineCount s_p0_lines s_p0_marks s_p0_newRow s_p0_points Q) : V E 0 0 144 [] [.int t_0] (cl_X7_part T o_p0 a_p0 s_p0_finding s_p0_asked s_p0_newPoints s_p0_newLines s_p0_faultAt s_p0_tries s_p0_things s_p0_goals s_p0_level s_p0_findings s_p0_kinds s_p0_lineCount s_p0_lines s_p0_marks s_p0_newRow s_p0_points) := by
  unfold w_X7_part_144 at h
  exact r _ _ _ (s_p0_finding, s_p0_newPoints, s_p0_newLines, s_p0_findings, s_p0_kinds, s_p0_lineCount, s_p0_lines, s_p0_marks, s_p0_newRow, s_p0_points) _ dX7_part_144 h rfl
set_option maxHeartbeats 4000000 in
set_option maxRecDepth 100000 in
theorem k_X7_part_118 {E : vE} {T : Nat → ClassId} {o_p0 : Nat} {a_p0 : Nat → Nat} {s_p0_finding : Int32} {s_p0_asked : Int64} {s_p0_newPoints : Int32} {s_p0_newLines : Int32} {s_p0_faultAt : Int64} {s_p0_tries : Int32} {s_p0_things : Int32} {s_p0_goals : Int32} {s_p0_level : Int32} {s_p0_findings : Nat → Int32} {s_p0_kinds : Nat → Int32} {s_p0_lineCount : Nat → Int32} {s_p0_lines : Nat → Int64} {s_p0_marks : Nat → Int32} {s_p0_newRow : Nat → Int64} {s_p0_points : Nat → Int32} {x_1 : Int32} {x_2 : Int64} {x_4 : Int32} {x_6 : Int32} {K_66 : (Int32) → (Int32) → (Nat → Int64) → Prop} {Q : Int32 → (Int32) → (Int32) → (Int32) → (Nat → Int32) → (Nat → Int32) → (Nat → Int32) → (Nat → Int64) → (Nat → Int32) → (Nat → Int64) → (Nat → Int32) → Prop} (X : vX E cX7_part 7 RX7 wsX7_part (vT T) (vr 3 63)) (r : r_X7_part E T o_p0 a_p0 s_p0_asked s_p0_faultAt s_p0_tries s_p0_things s_p0_goals s_p0_level Q) (hK_66 : ∀ (x_6' : Int32) (s_p0_newLines' : Int32) (s_p0_newRow' : Nat → Int64), K_66 x_6' s_p0_newLines' s_p0_newRow' → V E 0 0 66 [(0, .ref o_p0), (1, .int x_1), (2, .long x_2), (4, .int x_4), (6, .int x_6')] [] (cl_X7_part T o_p0 a_p0 s_p0_finding s_p0_asked s_p0_newPoints s_p0_newLines' s_p0_faultAt s_p0_tries s_p0_things s_p0_goals s_p0_level s_p0_findings s_p0_kinds s_p0_lineCount s_p0_lines s_p0_marks s_p0_newRow' s_p0_points)) (h : w_X7_part_118 x_1 x_2 x_4 x_6 s_p0_finding s_p0_newPoints s_p0_newLines s_p0_findings s_p0_kinds s_p0_lineCount s_p0_lines s_p0_marks s_p0_newRow s_p0_points K_66 Q) : V E 0 0 118 [(0, .ref o_p0), (1, .int x_1), (2, .long x_2), (4, .int x_4), (6, .int x_6)] [] (cl_X7_part T o_p0 a_p0 s_p0_finding s_p0_asked s_p0_newPoints s_p0_newLines s_p0_faultAt s_p0_tries s_p0_things s_p0_goals s_p0_level s_p0_findings s_p0_kinds s_p0_lineCount s_p0_lines s_p0_marks s_p0_newRow s_p0_points) := by
  unfold w_X7_part_118 at h
  refine v_iinc X (v := (x_6 + (1 : Int32))) (lv' := [(6, .int (x_6 + (1 : Int32))), (0, .ref o_p0), (1, .int x_1), (2, .long x_2), (4, .int x_4)]) 4 dX7_part_118 rfl rfl (by decide) rfl ?_
  refine v_goto X (tgt := 66) dX7_part_121 (by decide) ?_
  refine v_lv (lv' := [(0, .ref o_p0), (1, .int x_1), (2, .long x_2), (4, .int x_4), (6, .int (x_6 + (1 : Int32)))]) [1, 2, 3, 4, 0] rfl ?_
  exact hK_66 _ _ _ h
set_option maxHeartbeats 4000000 in
set_option maxRecDepth 100000 in
theorem k_X7_part_66 {E : vE} {T : Nat → ClassId} {o_p0 : Nat} {a_p0 : Nat → Nat} {s_p0_finding : Int32} {s_p0_asked : Int64} {s_p0_newPoints : Int32} {s_p0_faultAt : Int64} {s_p0_tries : Int32} {s_p0_things : Int32} {s_p0_goals : Int32} {s_p0_level : Int32} {s_p0_findings : Nat → Int32} {s_p0_kinds : Nat → Int32} {s_p0_lineCount : Nat → Int32} {s_p0_lines : Nat → Int64} {s_p0_marks : Nat → Int32} {s_p0_points : Nat → Int32} {x_1 : Int32} {x_2 : Int64} {x_4 : Int32} {Q : Int32 → (Int32) → (Int32) → (Int32) → (Nat → Int32) → (Nat → Int32) → (Nat → Int32) → (Nat → Int64) → (Nat → Int32) → (Nat → Int64) → (Nat → Int32) → Prop} (X : vX E cX7_part 7 RX7 wsX7_part (vT T) (vr 3 63)) (r : r_X7_part E T o_p0 a_p0 s_p0_asked s_p0_faultAt s_p0_tries s_p0_things s_p0_goals s_p0_level Q) : ∀ (n_ : Nat) (x_6 : Int32) (s_p0_newLines : Int32) (s_p0_newRow : Nat → Int64), w_X7_part_66 x_1 x_2 x_4 s_p0_finding s_p0_newPoints s_p0_findings s_p0_kinds s_p0_lineCount s_p0_lines s_p0_marks s_p0_points Q n_ x_6 s_p0_newLines s_p0_newRow → V E 0 0 66 [(0, .ref o_p0), (1, .int x_1), (2, .long x_2), (4, .int x_4), (6, .int x_6)] [] (cl_X7_part T o_p0 a_p0 s_p0_finding s_p0_asked s_p0_newPoints s_p0_newLines s_p0_faultAt s_p0_tries s_p0_things s_p0_goals s_p0_level s_p0_findings s_p0_kinds s_p0_lineCount s_p0_lines s_p0_marks s_p0_newRow s_p0_points) := by
  intro n_
  induction n_ with
  | zero => intro x_6 s_p0_newLines s_p0_newRow h; exact h.elim
  | succ n_ hK_66 =>
    intro x_6 s_p0_newLines s_p0_newRow h
    replace h : w_X7_part_66s x_1 x_2 x_4 s_p0_finding s_p0_newPoints s_p0_findings s_p0_kinds s_p0_lineCount s_p0_lines s_p0_marks s_p0_points Q (w_X7_part_66 x_1 x_2 x_4 s_p0_finding s_p0_newPoints s_p0_findings s_p0_kinds s_p0_lineCount s_p0_lines s_p0_marks s_p0_points Q n_) x_6 s_p0_newLines s_p0_newRow := h
    unfold w_X7_part_66s at h
    refine v_iload X 4 dX7_part_66 rfl ?_
    refine v_aload_n X 0 dX7_part_68 rfl rfl ?_
    refine v_get X 0 4 (F := TX7) (N := 33) iX7_part_X7 rfl rfl (by decide) (List.mem_of_getElem? (i := 4) rfl) rfl rfl dX7_part_69 ?_
    refine v_iload_n X 1 dX7_part_72 rfl rfl ?_
    refine v_iald X 3 0 rfl rfl h.1 dX7_part_73 ?_
    replace h := h.2
    refine v_icmp_ge X (tgt := 124) dX7_part_74 (by decide) (fun c_74 => ?_) (fun c_74 => ?_)
    · replace h := h.1 c_74
      refine v_aload_n X 0 dX7_part_124 rfl rfl ?_
      refine v_get X 0 9 (F := TX7) (N := 33) iX7_part_X7 rfl rfl (by decide) (List.mem_of_getElem? (i := 3) rfl) rfl rfl dX7_part_125 ?_
      refine v_if_ne X (tgt := 136) dX7_part_128 (by decide) (fun c_128 => ?_) (fun c_128 => ?_)
      · replace h := h.1 c_128
        refine v_aload_n X 0 dX7_part_136 rfl rfl ?_
        refine v_iload X 3 dX7_part_137 rfl ?_
        refine v_iconst X dX7_part_139 (v := (3 : Int32)) (by decide) ?_
        refine v_iconst X dX7_part_140 (v := (0 : Int32)) (by decide) ?_
        refine v_callVi X (As := [.int x_4, .int (3 : Int32), .int (0 : Int32)]) (rest := []) 3 0 (c_X7_keep (l := vl E) (D := vD E) (T := T) (o_p0 := o_p0) (a_p0 := a_p0) (s_p0_finding := s_p0_finding) (s_p0_asked := s_p0_asked) (s_p0_newPoints := s_p0_newPoints) (s_p0_newLines := s_p0_newLines) (s_p0_faultAt := s_p0_faultAt) (s_p0_tries := s_p0_tries) (s_p0_things := s_p0_things) (s_p0_goals := s_p0_goals) (s_p0_level := s_p0_level) (s_p0_kinds := s_p0_kinds) (s_p0_lineCount := s_p0_lineCount) (s_p0_lines := s_p0_lines) (s_p0_marks := s_p0_marks) (s_p0_newRow := s_p0_newRow) (s_p0_points := s_p0_points) (x_1 := x_4) (x_2 := (3 : Int32)) (x_3 := (0 : Int32)) h) gX7_part_X7_keep rfl rfl (by decide +kernel) ⟨Nat.zero_le _, Nat.zero_le _⟩ ⟨rfl, rfl, by decide, by decide⟩ (Nat.le_of_ble_eq_true rfl) rfl rfl (wr := [vI T (a_p0 1) 6 s_p0_findings]) [0, 2, 3, 4, 5, 6, 7] [1] rfl rfl rfl rfl (by decide) rfl dX7_part_141 (fun r_141 u h => ?_)
        obtain ⟨u_141_0, u_141_1, u_141_2, u_141_3, u_141_4⟩ := u
        dsimp only at h
        refine v_ws (ws' := (cl_X7_part T o_p0 a_p0 s_p0_finding s_p0_asked s_p0_newPoints s_p0_newLines s_p0_faultAt s_p0_tries s_p0_things s_p0_goals s_p0_level s_p0_findings u_141_0 u_141_1 u_141_2 u_141_3 s_p0_newRow u_141_4)) [1, 0, 2, 3, 4, 5, 6, 7] rfl rfl ?_
        refine v_lv (lv' := []) [] rfl ?_
        exact k_X7_part_144 X r h
      · replace h := h.2 c_128
        refine v_bipush X dX7_part_131 (v := (-4 : Int32)) (by decide) ?_
        refine v_goto X (tgt := 144) dX7_part_133 (by decide) ?_
        refine v_lv (lv' := []) [] rfl ?_
        exact k_X7_part_144 X r h
    · replace h := h.2 c_74
      refine v_aload_n X 0 dX7_part_77 rfl rfl ?_
      refine v_get X 0 7 (F := TX7) (N := 33) iX7_part_X7 rfl rfl (by decide) (List.mem_of_getElem? (i := 5) rfl) rfl rfl dX7_part_78 ?_
      refine v_bipush X dX7_part_81 (v := (45 : Int32)) (by decide) ?_
      refine v_iload_n X 1 dX7_part_83 rfl rfl ?_
      refine v_imul X dX7_part_84 ?_
      refine v_iload X 4 dX7_part_85 rfl ?_
      refine v_iadd X dX7_part_87 ?_
      refine v_lald X 4 1 rfl rfl h.1 dX7_part_88 ?_
      replace h := h.2
      refine v_lload_n X 2 dX7_part_89 rfl rfl ?_
      refine v_land X dX7_part_90 ?_
      refine v_callSi0 X (As := [.long ((s_p0_lines ((((45 : Int32) * x_1) + x_6)).toNatClampNeg) &&& x_2)]) (rest := []) 1 (c_X7_bits (l := vl E) (D := vD E) (T := T) (x_0 := ((s_p0_lines ((((45 : Int32) * x_1) + x_6)).toNatClampNeg) &&& x_2)) h) gX7_part_X7_bits rfl rfl (by decide +kernel) ⟨Nat.zero_le _, Nat.zero_le _⟩ ⟨rfl, rfl, by decide, by decide⟩ (Nat.le_of_ble_eq_true rfl) rfl dX7_part_91 (fun r_91 h => ?_)
      refine v_iconst X dX7_part_94 (v := (1 : Int32)) (by decide) ?_
      refine v_icmp_le X (tgt := 118) dX7_part_95 (by decide) (fun c_95 => ?_) (fun c_95 => ?_)
      · replace h := h.1 c_95
        exact k_X7_part_118 X r hK_66 h
      · replace h := h.2 c_95
        refine v_aload_n X 0 dX7_part_98 rfl rfl ?_
        refine v_aload_n X 0 dX7_part_99 rfl rfl ?_
        refine v_get X 0 7 (F := TX7) (N := 33) iX7_part_X7 rfl rfl (by decide) (List.mem_of_getElem? (i := 5) rfl) rfl rfl dX7_part_100 ?_
        refine v_bipush X dX7_part_103 (v := (45 : Int32)) (by decide) ?_
        refine v_iload_n X 1 dX7_part_105 rfl rfl ?_
        refine v_imul X dX7_part_106 ?_
        refine v_iload X 4 dX7_part_107 rfl ?_
        refine v_iadd X dX7_part_109 ?_
        refine v_lald X 4 1 rfl rfl h.1 dX7_part_110 ?_
        replace h := h.2
        refine v_lload_n X 2 dX7_part_111 rfl rfl ?_
        refine v_callSl0 X (As := [.long (s_p0_lines ((((45 : Int32) * x_1) + x_6)).toNatClampNeg), .long x_2]) (rest := [.ref o_p0]) 2 (c_X7_closed (l := vl E) (D := vD E) (T := T) (x_0 := (s_p0_lines ((((45 : Int32) * x_1) + x_6)).toNatClampNeg)) (x_2 := x_2) h) gX7_part_X7_closed rfl rfl (by decide +kernel) ⟨Nat.zero_le _, Nat.zero_le _⟩ ⟨rfl, rfl, by decide, by decide⟩ (Nat.le_of_ble_eq_true rfl) rfl dX7_part_112 (fun r_112 h => ?_)
        refine v_callVv X (As := [.long r_112]) (rest := []) 1 0 (c_X7_add (l := vl E) (D := vD E) (T := T) (o_p0 := o_p0) (a_p0 := a_p0) (s_p0_finding := s_p0_finding) (s_p0_asked := s_p0_asked) (s_p0_newPoints := s_p0_newPoints) (s_p0_newLines := s_p0_newLines) (s_p0_faultAt := s_p0_faultAt) (s_p0_tries := s_p0_tries) (s_p0_things := s_p0_things) (s_p0_goals := s_p0_goals) (s_p0_level := s_p0_level) (s_p0_newRow := s_p0_newRow) (x_1 := r_112) h) gX7_part_X7_add rfl rfl (by decide +kernel) ⟨Nat.zero_le _, Nat.zero_le _⟩ ⟨rfl, rfl, by decide, by decide⟩ (Nat.le_of_ble_eq_true rfl) rfl rfl (wr := [vI T (a_p0 1) 6 s_p0_findings, vI T (a_p0 5) 6 s_p0_kinds, vI T (a_p0 4) 6 s_p0_lineCount, vJ T (a_p0 7) 270 s_p0_lines, vI T (a_p0 6) 6 s_p0_marks, vI T (a_p0 3) 6 s_p0_points]) [0, 6] [1, 2, 3, 4, 5, 7] rfl rfl rfl rfl (by decide) rfl dX7_part_115 (fun u h => ?_)
        obtain ⟨u_115_0, u_115_1⟩ := u
        dsimp only at h
        refine v_ws (ws' := (cl_X7_part T o_p0 a_p0 s_p0_finding s_p0_asked s_p0_newPoints u_115_0 s_p0_faultAt s_p0_tries s_p0_things s_p0_goals s_p0_level s_p0_findings s_p0_kinds s_p0_lineCount s_p0_lines s_p0_marks u_115_1 s_p0_points)) [6, 0, 1, 2, 3, 4, 7, 5] rfl rfl ?_
        exact k_X7_part_118 X r hK_66 h
set_option maxHeartbeats 4000000 in
set_option maxRecDepth 100000 in
theorem k_X7_part_15 {E : vE} {T : Nat → ClassId} {o_p0 : Nat} {a_p0 : Nat → Nat} {s_p0_finding : Int32} {s_p0_asked : Int64} {s_p0_newPoints : Int32} {s_p0_newLines : Int32} {s_p0_faultAt : Int64} {s_p0_tries : Int32} {s_p0_things : Int32} {s_p0_goals : Int32} {s_p0_level : Int32} {s_p0_findings : Nat → Int32} {s_p0_kinds : Nat → Int32} {s_p0_lineCount : Nat → Int32} {s_p0_lines : Nat → Int64} {s_p0_marks : Nat → Int32} {s_p0_newRow : Nat → Int64} {s_p0_points : Nat → Int32} {Q : Int32 → (Int32) → (Int32) → (Int32) → (Nat → Int32) → (Nat → Int32) → (Nat → Int32) → (Nat → Int64) → (Nat → Int32) → (Nat → Int64) → (Nat → Int32) → Prop} (X : vX E cX7_part 7 RX7 wsX7_part (vT T) (vr 3 63)) (r : r_X7_part E T o_p0 a_p0 s_p0_asked s_p0_faultAt s_p0_tries s_p0_things s_p0_goals s_p0_level Q) (h : w_X7_part_15 s_p0_finding s_p0_newPoints s_p0_newLines s_p0_findings s_p0_kinds s_p0_lineCount s_p0_lines s_p0_marks s_p0_newRow s_p0_points Q) : V E 0 0 15 [] [] (cl_X7_part T o_p0 a_p0 s_p0_finding s_p0_asked s_p0_newPoints s_p0_newLines s_p0_faultAt s_p0_tries s_p0_things s_p0_goals s_p0_level s_p0_findings s_p0_kinds s_p0_lineCount s_p0_lines s_p0_marks s_p0_newRow s_p0_points) := by
  unfold w_X7_part_15 at h
  refine v_iconst X dX7_part_15 (v := (-1 : Int32)) (by decide) ?_
  exact r _ _ _ (s_p0_finding, s_p0_newPoints, s_p0_newLines, s_p0_findings, s_p0_kinds, s_p0_lineCount, s_p0_lines, s_p0_marks, s_p0_newRow, s_p0_points) _ dX7_part_16 h rfl
set_option maxHeartbeats 4000000 in
set_option maxRecDepth 100000 in
theorem c_X7_part {l : Launch} {D : va_G} {T : Nat → ClassId} {o_p0 : Nat} {a_p0 : Nat → Nat} {s_p0_finding : Int32} {s_p0_asked : Int64} {s_p0_newPoints : Int32} {s_p0_newLines : Int32} {s_p0_faultAt : Int64} {s_p0_tries : Int32} {s_p0_things : Int32} {s_p0_goals : Int32} {s_p0_level : Int32} {s_p0_findings : Nat → Int32} {s_p0_kinds : Nat → Int32} {s_p0_lineCount : Nat → Int32} {s_p0_lines : Nat → Int64} {s_p0_marks : Nat → Int32} {s_p0_newRow : Nat → Int64} {s_p0_points : Nat → Int32} {x_1 : Int32} {x_2 : Int64} {x_4 : Int32} {Q : Int32 → (Int32) → (Int32) → (Int32) → (Nat → Int32) → (Nat → Int32) → (Nat → Int32) → (Nat → Int64) → (Nat → Int32) → (Nat → Int64) → (Nat → Int32) → Prop} (h : w_X7_part x_1 x_2 x_4 s_p0_finding s_p0_newPoints s_p0_newLines s_p0_findings s_p0_kinds s_p0_lineCount s_p0_lines s_p0_marks s_p0_newRow s_p0_points Q) : vCi l D (vT T) yX7_part wsX7_part (vr 3 63) [.ref o_p0, .int x_1, .long x_2, .int x_4] (cl_X7_part T o_p0 a_p0 s_p0_finding s_p0_asked s_p0_newPoints s_p0_newLines s_p0_faultAt s_p0_tries s_p0_things s_p0_goals s_p0_level s_p0_findings s_p0_kinds s_p0_lineCount s_p0_lines s_p0_marks s_p0_newRow s_p0_points) (fun v (u : (Int32) × (Int32) × (Int32) × (Nat → Int32) × (Nat → Int32) × (Nat → Int32) × (Nat → Int64) × (Nat → Int32) × (Nat → Int64) × (Nat → Int32)) => Q v u.1 u.2.1 u.2.2.1 u.2.2.2.1 u.2.2.2.2.1 u.2.2.2.2.2.1 u.2.2.2.2.2.2.1 u.2.2.2.2.2.2.2.1 u.2.2.2.2.2.2.2.2.1 u.2.2.2.2.2.2.2.2.2) (fun (u : (Int32) × (Int32) × (Int32) × (Nat → Int32) × (Nat → Int32) × (Nat → Int32) × (Nat → Int64) × (Nat → Int32) × (Nat → Int64) × (Nat → Int32)) => (cl_X7_part T o_p0 a_p0 u.1 s_p0_asked u.2.1 u.2.2.1 s_p0_faultAt s_p0_tries s_p0_things s_p0_goals s_p0_level u.2.2.2.1 u.2.2.2.2.1 u.2.2.2.2.2.1 u.2.2.2.2.2.2.1 u.2.2.2.2.2.2.2.1 u.2.2.2.2.2.2.2.2.1 u.2.2.2.2.2.2.2.2.2)) := by
  refine vC_i (cc := cX7_part) (nL := 7) (by decide +kernel) rfl ⟨rfl, rfl⟩ (Nat.le_of_ble_eq_true rfl) rfl ?_
  intro E el eD X r
  unfold w_X7_part at h
  refine v_iload_n X 1 dX7_part_0 rfl rfl ?_
  refine v_callSi0 X (As := [.int x_1]) (rest := []) 1 (c_X7_isNumber (l := vl E) (D := vD E) (T := T) (x_0 := x_1) h) gX7_part_X7_isNumber rfl rfl (by decide +kernel) ⟨Nat.zero_le _, Nat.zero_le _⟩ ⟨rfl, rfl, by decide, by decide⟩ (Nat.le_of_ble_eq_true rfl) rfl dX7_part_1 (fun r_1 h => ?_)
  refine v_if_eq X (tgt := 15) dX7_part_4 (by decide) (fun c_4 => ?_) (fun c_4 => ?_)
  · replace h := h.1 c_4
    refine v_lv (lv' := []) [] rfl ?_
    exact k_X7_part_15 X r h
  · replace h := h.2 c_4
    refine v_iload X 3 dX7_part_7 rfl ?_
    refine v_callSi0 X (As := [.int x_4]) (rest := []) 1 (c_X7_isNumber (l := vl E) (D := vD E) (T := T) (x_0 := x_4) h) gX7_part_X7_isNumber rfl rfl (by decide +kernel) ⟨Nat.zero_le _, Nat.zero_le _⟩ ⟨rfl, rfl, by decide, by decide⟩ (Nat.le_of_ble_eq_true rfl) rfl dX7_part_9 (fun r_9 h => ?_)
    refine v_if_ne X (tgt := 17) dX7_part_12 (by decide) (fun c_12 => ?_) (fun c_12 => ?_)
    · replace h := h.1 c_12
      refine v_aload_n X 0 dX7_part_17 rfl rfl ?_
      refine v_iload_n X 1 dX7_part_18 rfl rfl ?_
      refine v_callVi X (As := [.int x_1]) (rest := []) 1 0 (c_X7_looked (l := vl E) (D := vD E) (T := T) (o_p0 := o_p0) (a_p0 := a_p0) (s_p0_finding := s_p0_finding) (s_p0_asked := s_p0_asked) (s_p0_newPoints := s_p0_newPoints) (s_p0_newLines := s_p0_newLines) (s_p0_faultAt := s_p0_faultAt) (s_p0_tries := s_p0_tries) (s_p0_things := s_p0_things) (s_p0_goals := s_p0_goals) (s_p0_level := s_p0_level) (s_p0_findings := s_p0_findings) (s_p0_points := s_p0_points) (x_1 := x_1) h) gX7_part_X7_looked rfl rfl (by decide +kernel) ⟨Nat.zero_le _, Nat.zero_le _⟩ ⟨rfl, rfl, by decide, by decide⟩ (Nat.le_of_ble_eq_true rfl) rfl rfl (wr := [vI T (a_p0 5) 6 s_p0_kinds, vI T (a_p0 4) 6 s_p0_lineCount, vJ T (a_p0 7) 270 s_p0_lines, vI T (a_p0 6) 6 s_p0_marks, vJ T (a_p0 10) 120 s_p0_newRow]) [0, 1, 7] [2, 3, 4, 5, 6] rfl rfl rfl rfl (by decide) rfl dX7_part_19 (fun r_19 u h => ?_)
      obtain ⟨u_19_0, u_19_1⟩ := u
      dsimp only at h
      refine v_ws (ws' := (cl_X7_part T o_p0 a_p0 u_19_0 s_p0_asked s_p0_newPoints s_p0_newLines s_p0_faultAt s_p0_tries s_p0_things s_p0_goals s_p0_level u_19_1 s_p0_kinds s_p0_lineCount s_p0_lines s_p0_marks s_p0_newRow s_p0_points)) [5, 6, 0, 1, 2, 3, 4, 7] rfl rfl ?_
      refine v_istore X (lv' := [(5, .int r_19), (0, .ref o_p0), (1, .int x_1), (2, .long x_2), (4, .int x_4)]) dX7_part_22 (by decide) rfl ?_
      refine v_iload X 0 dX7_part_24 rfl ?_
      refine v_if_ge X (tgt := 32) dX7_part_26 (by decide) (fun c_26 => ?_) (fun c_26 => ?_)
      · replace h := h.1 c_26
        refine v_lload_n X 3 dX7_part_32 rfl rfl ?_
        refine v_aload_n X 1 dX7_part_33 rfl rfl ?_
        refine v_iload_n X 2 dX7_part_34 rfl rfl ?_
        refine v_callVl X (As := [.int x_1]) (rest := [.long x_2]) 1 0 (c_X7_allOf (l := vl E) (D := vD E) (T := T) (o_p0 := o_p0) (a_p0 := a_p0) (s_p0_finding := u_19_0) (s_p0_asked := s_p0_asked) (s_p0_newPoints := s_p0_newPoints) (s_p0_newLines := s_p0_newLines) (s_p0_faultAt := s_p0_faultAt) (s_p0_tries := s_p0_tries) (s_p0_things := s_p0_things) (s_p0_goals := s_p0_goals) (s_p0_level := s_p0_level) (s_p0_points := s_p0_points) (x_1 := x_1) h) gX7_part_X7_allOf rfl rfl (by decide +kernel) ⟨Nat.zero_le _, Nat.zero_le _⟩ ⟨rfl, rfl, by decide, by decide⟩ (Nat.le_of_ble_eq_true rfl) rfl rfl (wr := [vI T (a_p0 1) 6 u_19_1, vI T (a_p0 5) 6 s_p0_kinds, vI T (a_p0 4) 6 s_p0_lineCount, vJ T (a_p0 7) 270 s_p0_lines, vI T (a_p0 6) 6 s_p0_marks, vJ T (a_p0 10) 120 s_p0_newRow]) [0, 7] [1, 2, 3, 4, 5, 6] rfl rfl rfl rfl (by decide) rfl dX7_part_35 (fun r_35 u h => ?_)
        refine v_ws (ws' := (cl_X7_part T o_p0 a_p0 u_19_0 s_p0_asked s_p0_newPoints s_p0_newLines s_p0_faultAt s_p0_tries s_p0_things s_p0_goals s_p0_level u_19_1 s_p0_kinds s_p0_lineCount s_p0_lines s_p0_marks s_p0_newRow s_p0_points)) [6, 0, 1, 2, 3, 4, 5, 7] rfl rfl ?_
        refine v_ldc2 X (v := (-1 : Int64)) (List.mem_of_getElem? (i := 1) rfl) dX7_part_38 ?_
        refine v_lxor X dX7_part_41 ?_
        refine v_land X dX7_part_42 ?_
        refine v_lconst X dX7_part_43 (v := (0 : Int64)) (by decide) ?_
        refine v_lcmp X dX7_part_44 ?_
        refine v_if_eq X (tgt := 50) dX7_part_45 (by decide) (fun c_45 => ?_) (fun c_45 => ?_)
        · replace h := h.1 c_45
          refine v_aload_n X 1 dX7_part_50 rfl rfl ?_
          refine v_lload_n X 3 dX7_part_51 rfl rfl ?_
          refine v_callSi0 X (As := [.long x_2]) (rest := [.ref o_p0]) 1 (c_X7_bits (l := vl E) (D := vD E) (T := T) (x_0 := x_2) h) gX7_part_X7_bits rfl rfl (by decide +kernel) ⟨Nat.zero_le _, Nat.zero_le _⟩ ⟨rfl, rfl, by decide, by decide⟩ (Nat.le_of_ble_eq_true rfl) rfl dX7_part_52 (fun r_52 h => ?_)
          refine v_put X (ws' := (cl_X7_part T o_p0 a_p0 u_19_0 s_p0_asked r_52 s_p0_newLines s_p0_faultAt s_p0_tries s_p0_things s_p0_goals s_p0_level u_19_1 s_p0_kinds s_p0_lineCount s_p0_lines s_p0_marks s_p0_newRow s_p0_points)) 0 8 (F := TX7) (N := 33) iX7_part_X7 rfl tyX7 tyX7_ok nmX7 rfl (by decide) (List.mem_of_getElem? (i := 2) rfl) rfl rfl rfl rfl rfl (Nat.le_of_ble_eq_true rfl) rfl dX7_part_55 ?_
          refine v_aload_n X 1 dX7_part_58 rfl rfl ?_
          refine v_iconst X dX7_part_59 (v := (0 : Int32)) (by decide) ?_
          refine v_put X (ws' := (cl_X7_part T o_p0 a_p0 u_19_0 s_p0_asked r_52 (0 : Int32) s_p0_faultAt s_p0_tries s_p0_things s_p0_goals s_p0_level u_19_1 s_p0_kinds s_p0_lineCount s_p0_lines s_p0_marks s_p0_newRow s_p0_points)) 0 9 (F := TX7) (N := 33) iX7_part_X7 rfl tyX7 tyX7_ok nmX7 rfl (by decide) (List.mem_of_getElem? (i := 3) rfl) rfl rfl rfl rfl rfl (Nat.le_of_ble_eq_true rfl) rfl dX7_part_60 ?_
          refine v_iconst X dX7_part_63 (v := (0 : Int32)) (by decide) ?_
          refine v_istore X (lv' := [(6, .int (0 : Int32)), (5, .int r_19), (0, .ref o_p0), (1, .int x_1), (2, .long x_2), (4, .int x_4)]) dX7_part_64 (by decide) rfl ?_
          refine v_lv (lv' := [(0, .ref o_p0), (1, .int x_1), (2, .long x_2), (4, .int x_4), (6, .int (0 : Int32))]) [2, 3, 4, 5, 0] rfl ?_
          obtain ⟨n_, h⟩ := h
          exact k_X7_part_66 X r n_ _ _ _ h
        · replace h := h.2 c_45
          refine v_iconst X dX7_part_48 (v := (-1 : Int32)) (by decide) ?_
          exact r _ _ _ (u_19_0, s_p0_newPoints, s_p0_newLines, u_19_1, s_p0_kinds, s_p0_lineCount, s_p0_lines, s_p0_marks, s_p0_newRow, s_p0_points) _ dX7_part_49 h rfl
      · replace h := h.2 c_26
        refine v_iload X 0 dX7_part_29 rfl ?_
        exact r _ _ _ (u_19_0, s_p0_newPoints, s_p0_newLines, u_19_1, s_p0_kinds, s_p0_lineCount, s_p0_lines, s_p0_marks, s_p0_newRow, s_p0_points) _ dX7_part_31 h rfl
    · replace h := h.2 c_12
      refine v_lv (lv' := []) [] rfl ?_
      exact k_X7_part_15 X r h
-- X7_drop
abbrev cl_X7_drop (T : Nat → ClassId) (o_p0 : Nat) (a_p0 : Nat → Nat) (s_p0_finding : Int32) (s_p0_asked : Int64) (s_p0_newPoints : Int32) (s_p0_newLines : Int32) (s_p0_faultAt : Int64) (s_p0_tries : Int32) (s_p0_things : Int32) (s_p0_goals : Int32) (s_p0_level : Int32) (s_p0_findings : Nat → Int32) (s_p0_points : Nat → Int32) : va_W := [vO o_p0 4 [.int s_p0_finding, .ref (a_p0 1), .long s_p0_asked, .ref (a_p0 3), .ref (a_p0 4), .ref (a_p0 5), .ref (a_p0 6), .ref (a_p0 7), .int s_p0_newPoints, .int s_p0_newLines, .ref (a_p0 10), .ref (a_p0 11), .long s_p0_faultAt, .int s_p0_tries, .int s_p0_things, .int s_p0_goals, .ref (a_p0 16), .ref (a_p0 17), .ref (a_p0 18), .ref (a_p0 19), .ref (a_p0 20), .ref (a_p0 21), .int s_p0_level, .ref (a_p0 23), .ref (a_p0 24), .ref (a_p0 25), .ref (a_p0 26), .ref (a_p0 27), .ref (a_p0 28), .ref (a_p0 29), .ref (a_p0 30), .ref (a_p0 31), .ref (a_p0 32)], vI T (a_p0 1) 6 s_p0_findings, vI T (a_p0 3) 6 s_p0_points]
abbrev r_X7_drop (E : vE) (T : Nat → ClassId) (o_p0 : Nat) (a_p0 : Nat → Nat) (s_p0_asked : Int64) (s_p0_newPoints : Int32) (s_p0_newLines : Int32) (s_p0_faultAt : Int64) (s_p0_tries : Int32) (s_p0_things : Int32) (s_p0_goals : Int32) (s_p0_level : Int32) (Q : Int32 → (Int32) → (Nat → Int32) → (Nat → Int32) → Prop) : Prop := vRi E cX7_drop (fun v (u : (Int32) × (Nat → Int32) × (Nat → Int32)) => Q v u.1 u.2.1 u.2.2) (fun (u : (Int32) × (Nat → Int32) × (Nat → Int32)) => (cl_X7_drop T o_p0 a_p0 u.1 s_p0_asked s_p0_newPoints s_p0_newLines s_p0_faultAt s_p0_tries s_p0_things s_p0_goals s_p0_level u.2.1 u.2.2))
def w_X7_drop (x_1 : Int32) (s_p0_finding : Int32) (s_p0_findings : Nat → Int32) (s_p0_points : Nat → Int32) (Q : Int32 → (Int32) → (Nat → Int32) → (Nat → Int32) → Prop) : Prop := (w_X7_looked x_1 s_p0_finding s_p0_findings s_p0_points (fun (r_2 : Int32) (u_2_0 : Int32) (u_2_1 : Nat → Int32) => ((0 ≤ r_2 → (vp_in x_1 6 ∧ (Q (1 : Int32) u_2_0 u_2_1 (upd s_p0_points (x_1).toNatClampNeg (0 : Int32))))) ∧ (¬ 0 ≤ r_2 → (Q r_2 u_2_0 u_2_1 s_p0_points)))))
-- X7_drop
theorem iX7_drop_X7 : ∀ w ∈ wsX70, w ∈ wsX7_drop := by decide +kernel
set_option maxHeartbeats 4000000 in
set_option maxRecDepth 100000 in
theorem c_X7_drop {l : Launch} {D : va_G} {T : Nat → ClassId} {o_p0 : Nat} {a_p0 : Nat → Nat} {s_p0_finding : Int32} {s_p0_asked : Int64} {s_p0_newPoints : Int32} {s_p0_newLines : Int32} {s_p0_faultAt : Int64} {s_p0_tries : Int32} {s_p0_things : Int32} {s_p0_goals : Int32} {s_p0_level : Int32} {s_p0_findings : Nat → Int32} {s_p0_points : Nat → Int32} {x_1 : Int32} {Q : Int32 → (Int32) → (Nat → Int32) → (Nat → Int32) → Prop} (h : w_X7_drop x_1 s_p0_finding s_p0_findings s_p0_points Q) : vCi l D (vT T) yX7_drop wsX7_drop (vr 3 63) [.ref o_p0, .int x_1] (cl_X7_drop T o_p0 a_p0 s_p0_finding s_p0_asked s_p0_newPoints s_p0_newLines s_p0_faultAt s_p0_tries s_p0_things s_p0_goals s_p0_level s_p0_findings s_p0_points) (fun v (u : (Int32) × (Nat → Int32) × (Nat → Int32)) => Q v u.1 u.2.1 u.2.2) (fun (u : (Int32) × (Nat → Int32) × (Nat → Int32)) => (cl_X7_drop T o_p0 a_p0 u.1 s_p0_asked s_p0_newPoints s_p0_newLines s_p0_faultAt s_p0_tries s_p0_things s_p0_goals s_p0_level u.2.1 u.2.2)) := by
  refine vC_i (cc := cX7_drop) (nL := 3) (by decide +kernel) rfl ⟨rfl, rfl⟩ (Nat.le_of_ble_eq_true rfl) rfl ?_
  intro E el eD X r
  unfold w_X7_drop at h
  refine v_aload_n X 0 dX7_drop_0 rfl rfl ?_
  refine v_iload_n X 1 dX7_drop_1 rfl rfl ?_
  refine v_callVi X (As := [.int x_1]) (rest := []) 1 0 (c_X7_looked (l := vl E) (D := vD E) (T := T) (o_p0 := o_p0) (a_p0 := a_p0) (s_p0_finding := s_p0_finding) (s_p0_asked := s_p0_asked) (s_p0_newPoints := s_p0_newPoints) (s_p0_newLines := s_p0_newLines) (s_p0_faultAt := s_p0_faultAt) (s_p0_tries := s_p0_tries) (s_p0_things := s_p0_things) (s_p0_goals := s_p0_goals) (s_p0_level := s_p0_level) (s_p0_findings := s_p0_findings) (s_p0_points := s_p0_points) (x_1 := x_1) h) gX7_drop_X7_looked rfl rfl (by decide +kernel) ⟨Nat.zero_le _, Nat.zero_le _⟩ ⟨rfl, rfl, by decide, by decide⟩ (Nat.le_of_ble_eq_true rfl) rfl rfl (wr := []) [0, 1, 2] [] rfl rfl rfl rfl (by decide) rfl dX7_drop_2 (fun r_2 u h => ?_)
  obtain ⟨u_2_0, u_2_1⟩ := u
  dsimp only at h
  refine v_ws (ws' := (cl_X7_drop T o_p0 a_p0 u_2_0 s_p0_asked s_p0_newPoints s_p0_newLines s_p0_faultAt s_p0_tries s_p0_things s_p0_goals s_p0_level u_2_1 s_p0_points)) [0, 1, 2] rfl rfl ?_
  refine v_istore_n X (lv' := [(2, .int r_2), (0, .ref o_p0), (1, .int x_1)]) dX7_drop_5 rfl (by decide) rfl ?_
  refine v_iload_n X 0 dX7_drop_6 rfl rfl ?_
  refine v_if_ge X (tgt := 12) dX7_drop_7 (by decide) (fun c_7 => ?_) (fun c_7 => ?_)
  · replace h := h.1 c_7
    refine v_aload_n X 1 dX7_drop_12 rfl rfl ?_
    refine v_get X 0 3 (F := TX7) (N := 33) iX7_drop_X7 rfl rfl (by decide) (List.mem_of_getElem? (i := 1) rfl) rfl rfl dX7_drop_13 ?_
    refine v_iload_n X 2 dX7_drop_16 rfl rfl ?_
    refine v_iconst X dX7_drop_17 (v := (0 : Int32)) (by decide) ?_
    refine v_iast X (ws' := (cl_X7_drop T o_p0 a_p0 u_2_0 s_p0_asked s_p0_newPoints s_p0_newLines s_p0_faultAt s_p0_tries s_p0_things s_p0_goals s_p0_level u_2_1 (upd s_p0_points (x_1).toNatClampNeg (0 : Int32)))) 2 0 rfl rfl h.1 rfl dX7_drop_18 ?_
    replace h := h.2
    refine v_iconst X dX7_drop_19 (v := (1 : Int32)) (by decide) ?_
    exact r _ _ _ (u_2_0, u_2_1, (upd s_p0_points (x_1).toNatClampNeg (0 : Int32))) _ dX7_drop_20 h rfl
  · replace h := h.2 c_7
    refine v_iload_n X 0 dX7_drop_10 rfl rfl ?_
    exact r _ _ _ (u_2_0, u_2_1, s_p0_points) _ dX7_drop_11 h rfl
-- X7_told
abbrev cl_X7_told (T : Nat → ClassId) (o_p0 : Nat) (a_p0 : Nat → Nat) (s_p0_finding : Int32) (s_p0_asked : Int64) (s_p0_newPoints : Int32) (s_p0_newLines : Int32) (s_p0_faultAt : Int64) (s_p0_tries : Int32) (s_p0_things : Int32) (s_p0_goals : Int32) (s_p0_level : Int32) (s_p0_findings : Nat → Int32) (s_p0_kinds : Nat → Int32) (s_p0_lineCount : Nat → Int32) (s_p0_lines : Nat → Int64) (s_p0_points : Nat → Int32) : va_W := [vO o_p0 4 [.int s_p0_finding, .ref (a_p0 1), .long s_p0_asked, .ref (a_p0 3), .ref (a_p0 4), .ref (a_p0 5), .ref (a_p0 6), .ref (a_p0 7), .int s_p0_newPoints, .int s_p0_newLines, .ref (a_p0 10), .ref (a_p0 11), .long s_p0_faultAt, .int s_p0_tries, .int s_p0_things, .int s_p0_goals, .ref (a_p0 16), .ref (a_p0 17), .ref (a_p0 18), .ref (a_p0 19), .ref (a_p0 20), .ref (a_p0 21), .int s_p0_level, .ref (a_p0 23), .ref (a_p0 24), .ref (a_p0 25), .ref (a_p0 26), .ref (a_p0 27), .ref (a_p0 28), .ref (a_p0 29), .ref (a_p0 30), .ref (a_p0 31), .ref (a_p0 32)], vI T (a_p0 1) 6 s_p0_findings, vI T (a_p0 5) 6 s_p0_kinds, vI T (a_p0 4) 6 s_p0_lineCount, vJ T (a_p0 7) 270 s_p0_lines, vI T (a_p0 3) 6 s_p0_points]
abbrev r_X7_told (E : vE) (T : Nat → ClassId) (o_p0 : Nat) (a_p0 : Nat → Nat) (s_p0_asked : Int64) (s_p0_newPoints : Int32) (s_p0_newLines : Int32) (s_p0_faultAt : Int64) (s_p0_tries : Int32) (s_p0_things : Int32) (s_p0_goals : Int32) (s_p0_level : Int32) (s_p0_kinds : Nat → Int32) (s_p0_lineCount : Nat → Int32) (s_p0_lines : Nat → Int64) (s_p0_points : Nat → Int32) (Q : Int32 → (Int32) → (Nat → Int32) → Prop) : Prop := vRi E cX7_told (fun v (u : (Int32) × (Nat → Int32)) => Q v u.1 u.2) (fun (u : (Int32) × (Nat → Int32)) => (cl_X7_told T o_p0 a_p0 u.1 s_p0_asked s_p0_newPoints s_p0_newLines s_p0_faultAt s_p0_tries s_p0_things s_p0_goals s_p0_level u.2 s_p0_kinds s_p0_lineCount s_p0_lines s_p0_points))
def w_X7_told_79 (t_0 : Int32) (s_p0_finding : Int32) (s_p0_findings : Nat → Int32) (s_p0_kinds : Nat → Int32) (s_p0_lineCount : Nat → Int32) (s_p0_lines : Nat → Int64) (s_p0_points : Nat → Int32) (Q : Int32 → (Int32) → (Nat → Int32) → Prop) : Prop := (Q t_0 s_p0_finding s_p0_findings)
def w_X7_told_76 (t_1 : Int32) (t_2 : Int32) (s_p0_finding : Int32) (s_p0_findings : Nat → Int32) (s_p0_kinds : Nat → Int32) (s_p0_lineCount : Nat → Int32) (s_p0_lines : Nat → Int64) (s_p0_points : Nat → Int32) (Q : Int32 → (Int32) → (Nat → Int32) → Prop) : Prop := (w_X7_orderOf t_1 t_2 s_p0_lineCount s_p0_lines s_p0_points (fun (r_76 : Int32) => (w_X7_told_79 r_76 s_p0_finding s_p0_findings s_p0_kinds s_p0_lineCount s_p0_lines s_p0_points Q)))
def w_X7_told (x_1 : Int32) (x_2 : Int32) (s_p0_finding : Int32) (s_p0_findings : Nat → Int32) (s_p0_kinds : Nat → Int32) (s_p0_lineCount : Nat → Int32) (s_p0_lines : Nat → Int64) (s_p0_points : Nat → Int32) (Q : Int32 → (Int32) → (Nat → Int32) → Prop) : Prop := (w_X7_in x_2 (0 : Int32) (4 : Int32) (fun (r_3 : Int32) => ((¬ r_3 = 0 → (w_X7_looked x_1 s_p0_finding s_p0_findings s_p0_points (fun (r_13 : Int32) (u_13_0 : Int32) (u_13_1 : Nat → Int32) => ((0 ≤ r_13 → ((¬ x_2 = 0 → ((¬ x_2 = (1 : Int32) → ((¬ x_2 = (2 : Int32) → ((¬ x_2 = (3 : Int32) → (w_X7_told_76 x_1 (0 : Int32) u_13_0 u_13_1 s_p0_kinds s_p0_lineCount s_p0_lines s_p0_points Q)) ∧ (x_2 = (3 : Int32) → (w_X7_told_76 x_1 (1 : Int32) u_13_0 u_13_1 s_p0_kinds s_p0_lineCount s_p0_lines s_p0_points Q)))) ∧ (x_2 = (2 : Int32) → (vp_in x_1 6 ∧ (w_X7_told_79 (s_p0_lineCount (x_1).toNatClampNeg) u_13_0 u_13_1 s_p0_kinds s_p0_lineCount s_p0_lines s_p0_points Q))))) ∧ (x_2 = (1 : Int32) → (vp_in x_1 6 ∧ (w_X7_told_79 (s_p0_points (x_1).toNatClampNeg) u_13_0 u_13_1 s_p0_kinds s_p0_lineCount s_p0_lines s_p0_points Q))))) ∧ (x_2 = 0 → (vp_in x_1 6 ∧ (w_X7_told_79 (s_p0_kinds (x_1).toNatClampNeg) u_13_0 u_13_1 s_p0_kinds s_p0_lineCount s_p0_lines s_p0_points Q))))) ∧ (¬ 0 ≤ r_13 → (Q r_13 u_13_0 u_13_1)))))) ∧ (r_3 = 0 → (Q (-1 : Int32) s_p0_finding s_p0_findings)))))
-- X7_told
theorem iX7_told_X7 : ∀ w ∈ wsX70, w ∈ wsX7_told := by decide +kernel
set_option maxHeartbeats 4000000 in
set_option maxRecDepth 100000 in
theorem k_X7_told_79 {E : vE} {T : Nat → ClassId} {o_p0 : Nat} {a_p0 : Nat → Nat} {s_p0_finding : Int32} {s_p0_asked : Int64} {s_p0_newPoints : Int32} {s_p0_newLines : Int32} {s_p0_faultAt : Int64} {s_p0_tries : Int32} {s_p0_things : Int32} {s_p0_goals : Int32} {s_p0_level : Int32} {s_p0_findings : Nat → Int32} {s_p0_kinds : Nat → Int32} {s_p0_lineCount : Nat → Int32} {s_p0_lines : Nat → Int64} {s_p0_points : Nat → Int32} {t_0 : Int32} {Q : Int32 → (Int32) → (Nat → Int32) → Prop} (X : vX E cX7_told 4 RX7 wsX7_told (vT T) (vr 3 73)) (r : r_X7_told E T o_p0 a_p0 s_p0_asked s_p0_newPoints s_p0_newLines s_p0_faultAt s_p0_tries s_p0_things s_p0_goals s_p0_level s_p0_kinds s_p0_lineCount s_p0_lines s_p0_points Q) (h : w_X7_told_79 t_0 s_p0_finding s_p0_findings s_p0_kinds s_p0_lineCount s_p0_lines s_p0_points Q) : V E 0 0 79 [] [.int t_0] (cl_X7_told T o_p0 a_p0 s_p0_finding s_p0_asked s_p0_newPoints s_p0_newLines s_p0_faultAt s_p0_tries s_p0_things s_p0_goals s_p0_level s_p0_findings s_p0_kinds s_p0_lineCount s_p0_lines s_p0_points) := by
  unfold w_X7_told_79 at h
  exact r _ _ _ (s_p0_finding, s_p0_findings) _ dX7_told_79 h rfl
set_option maxHeartbeats 4000000 in
set_option maxRecDepth 100000 in
theorem k_X7_told_76 {E : vE} {T : Nat → ClassId} {o_p0 : Nat} {a_p0 : Nat → Nat} {s_p0_finding : Int32} {s_p0_asked : Int64} {s_p0_newPoints : Int32} {s_p0_newLines : Int32} {s_p0_faultAt : Int64} {s_p0_tries : Int32} {s_p0_things : Int32} {s_p0_goals : Int32} {s_p0_level : Int32} {s_p0_findings : Nat → Int32} {s_p0_kinds : Nat → Int32} {s_p0_lineCount : Nat → Int32} {s_p0_lines : Nat → Int64} {s_p0_points : Nat → Int32} {t_1 : Int32} {t_2 : Int32} {Q : Int32 → (Int32) → (Nat → Int32) → Prop} (X : vX E cX7_told 4 RX7 wsX7_told (vT T) (vr 3 73)) (r : r_X7_told E T o_p0 a_p0 s_p0_asked s_p0_newPoints s_p0_newLines s_p0_faultAt s_p0_tries s_p0_things s_p0_goals s_p0_level s_p0_kinds s_p0_lineCount s_p0_lines s_p0_points Q) (h : w_X7_told_76 t_1 t_2 s_p0_finding s_p0_findings s_p0_kinds s_p0_lineCount s_p0_lines s_p0_points Q) : V E 0 0 76 [] [.int t_2, .int t_1, .ref o_p0] (cl_X7_told T o_p0 a_p0 s_p0_finding s_p0_asked s_p0_newPoints s_p0_newLines s_p0_faultAt s_p0_tries s_p0_things s_p0_goals s_p0_level s_p0_findings s_p0_kinds s_p0_lineCount s_p0_lines s_p0_points) := by
  unfold w_X7_told_76 at h
  refine v_callVi X (As := [.int t_1, .int t_2]) (rest := []) 2 0 (c_X7_orderOf (l := vl E) (D := vD E) (T := T) (o_p0 := o_p0) (a_p0 := a_p0) (s_p0_finding := s_p0_finding) (s_p0_asked := s_p0_asked) (s_p0_newPoints := s_p0_newPoints) (s_p0_newLines := s_p0_newLines) (s_p0_faultAt := s_p0_faultAt) (s_p0_tries := s_p0_tries) (s_p0_things := s_p0_things) (s_p0_goals := s_p0_goals) (s_p0_level := s_p0_level) (s_p0_lineCount := s_p0_lineCount) (s_p0_lines := s_p0_lines) (s_p0_points := s_p0_points) (x_1 := t_1) (x_2 := t_2) h) gX7_told_X7_orderOf rfl rfl (by decide +kernel) ⟨Nat.zero_le _, Nat.zero_le _⟩ ⟨rfl, rfl, by decide, by decide⟩ (Nat.le_of_ble_eq_true rfl) rfl rfl (wr := [vI T (a_p0 1) 6 s_p0_findings, vI T (a_p0 5) 6 s_p0_kinds]) [0, 3, 4, 5] [1, 2] rfl rfl rfl rfl (by decide) rfl dX7_told_76 (fun r_76 u h => ?_)
  refine v_ws (ws' := (cl_X7_told T o_p0 a_p0 s_p0_finding s_p0_asked s_p0_newPoints s_p0_newLines s_p0_faultAt s_p0_tries s_p0_things s_p0_goals s_p0_level s_p0_findings s_p0_kinds s_p0_lineCount s_p0_lines s_p0_points)) [2, 0, 1, 3, 4, 5] rfl rfl ?_
  exact k_X7_told_79 X r h
set_option maxHeartbeats 4000000 in
set_option maxRecDepth 100000 in
theorem c_X7_told {l : Launch} {D : va_G} {T : Nat → ClassId} {o_p0 : Nat} {a_p0 : Nat → Nat} {s_p0_finding : Int32} {s_p0_asked : Int64} {s_p0_newPoints : Int32} {s_p0_newLines : Int32} {s_p0_faultAt : Int64} {s_p0_tries : Int32} {s_p0_things : Int32} {s_p0_goals : Int32} {s_p0_level : Int32} {s_p0_findings : Nat → Int32} {s_p0_kinds : Nat → Int32} {s_p0_lineCount : Nat → Int32} {s_p0_lines : Nat → Int64} {s_p0_points : Nat → Int32} {x_1 : Int32} {x_2 : Int32} {Q : Int32 → (Int32) → (Nat → Int32) → Prop} (h : w_X7_told x_1 x_2 s_p0_finding s_p0_findings s_p0_kinds s_p0_lineCount s_p0_lines s_p0_points Q) : vCi l D (vT T) yX7_told wsX7_told (vr 3 73) [.ref o_p0, .int x_1, .int x_2] (cl_X7_told T o_p0 a_p0 s_p0_finding s_p0_asked s_p0_newPoints s_p0_newLines s_p0_faultAt s_p0_tries s_p0_things s_p0_goals s_p0_level s_p0_findings s_p0_kinds s_p0_lineCount s_p0_lines s_p0_points) (fun v (u : (Int32) × (Nat → Int32)) => Q v u.1 u.2) (fun (u : (Int32) × (Nat → Int32)) => (cl_X7_told T o_p0 a_p0 u.1 s_p0_asked s_p0_newPoints s_p0_newLines s_p0_faultAt s_p0_tries s_p0_things s_p0_goals s_p0_level u.2 s_p0_kinds s_p0_lineCount s_p0_lines s_p0_points)) := by
  refine vC_i (cc := cX7_told) (nL := 4) (by decide +kernel) rfl ⟨rfl, rfl⟩ (Nat.le_of_ble_eq_true rfl) rfl ?_
  intro E el eD X r
  unfold w_X7_told at h
  refine v_iload_n X 2 dX7_told_0 rfl rfl ?_
  refine v_iconst X dX7_told_1 (v := (0 : Int32)) (by decide) ?_
  refine v_iconst X dX7_told_2 (v := (4 : Int32)) (by decide) ?_
  refine v_callSi0 X (As := [.int x_2, .int (0 : Int32), .int (4 : Int32)]) (rest := []) 3 (c_X7_in (l := vl E) (D := vD E) (T := T) (x_0 := x_2) (x_1 := (0 : Int32)) (x_2 := (4 : Int32)) h) gX7_told_X7_in rfl rfl (by decide +kernel) ⟨Nat.zero_le _, Nat.zero_le _⟩ ⟨rfl, rfl, by decide, by decide⟩ (Nat.le_of_ble_eq_true rfl) rfl dX7_told_3 (fun r_3 h => ?_)
  refine v_if_ne X (tgt := 11) dX7_told_6 (by decide) (fun c_6 => ?_) (fun c_6 => ?_)
  · replace h := h.1 c_6
    refine v_aload_n X 0 dX7_told_11 rfl rfl ?_
    refine v_iload_n X 1 dX7_told_12 rfl rfl ?_
    refine v_callVi X (As := [.int x_1]) (rest := []) 1 0 (c_X7_looked (l := vl E) (D := vD E) (T := T) (o_p0 := o_p0) (a_p0 := a_p0) (s_p0_finding := s_p0_finding) (s_p0_asked := s_p0_asked) (s_p0_newPoints := s_p0_newPoints) (s_p0_newLines := s_p0_newLines) (s_p0_faultAt := s_p0_faultAt) (s_p0_tries := s_p0_tries) (s_p0_things := s_p0_things) (s_p0_goals := s_p0_goals) (s_p0_level := s_p0_level) (s_p0_findings := s_p0_findings) (s_p0_points := s_p0_points) (x_1 := x_1) h) gX7_told_X7_looked rfl rfl (by decide +kernel) ⟨Nat.zero_le _, Nat.zero_le _⟩ ⟨rfl, rfl, by decide, by decide⟩ (Nat.le_of_ble_eq_true rfl) rfl rfl (wr := [vI T (a_p0 5) 6 s_p0_kinds, vI T (a_p0 4) 6 s_p0_lineCount, vJ T (a_p0 7) 270 s_p0_lines]) [0, 1, 5] [2, 3, 4] rfl rfl rfl rfl (by decide) rfl dX7_told_13 (fun r_13 u h => ?_)
    obtain ⟨u_13_0, u_13_1⟩ := u
    dsimp only at h
    refine v_ws (ws' := (cl_X7_told T o_p0 a_p0 u_13_0 s_p0_asked s_p0_newPoints s_p0_newLines s_p0_faultAt s_p0_tries s_p0_things s_p0_goals s_p0_level u_13_1 s_p0_kinds s_p0_lineCount s_p0_lines s_p0_points)) [3, 4, 0, 1, 2, 5] rfl rfl ?_
    refine v_istore_n X (lv' := [(3, .int r_13), (0, .ref o_p0), (1, .int x_1), (2, .int x_2)]) dX7_told_16 rfl (by decide) rfl ?_
    refine v_iload_n X 0 dX7_told_17 rfl rfl ?_
    refine v_if_ge X (tgt := 23) dX7_told_18 (by decide) (fun c_18 => ?_) (fun c_18 => ?_)
    · replace h := h.1 c_18
      refine v_iload_n X 3 dX7_told_23 rfl rfl ?_
      refine v_if_ne X (tgt := 36) dX7_told_24 (by decide) (fun c_24 => ?_) (fun c_24 => ?_)
      · replace h := h.1 c_24
        refine v_iload_n X 3 dX7_told_36 rfl rfl ?_
        refine v_iconst X dX7_told_37 (v := (1 : Int32)) (by decide) ?_
        refine v_icmp_ne X (tgt := 50) dX7_told_38 (by decide) (fun c_38 => ?_) (fun c_38 => ?_)
        · replace h := h.1 c_38
          refine v_iload_n X 3 dX7_told_50 rfl rfl ?_
          refine v_iconst X dX7_told_51 (v := (2 : Int32)) (by decide) ?_
          refine v_icmp_ne X (tgt := 64) dX7_told_52 (by decide) (fun c_52 => ?_) (fun c_52 => ?_)
          · replace h := h.1 c_52
            refine v_aload_n X 1 dX7_told_64 rfl rfl ?_
            refine v_iload_n X 2 dX7_told_65 rfl rfl ?_
            refine v_iload_n X 3 dX7_told_66 rfl rfl ?_
            refine v_iconst X dX7_told_67 (v := (3 : Int32)) (by decide) ?_
            refine v_icmp_ne X (tgt := 75) dX7_told_68 (by decide) (fun c_68 => ?_) (fun c_68 => ?_)
            · replace h := h.1 c_68
              refine v_iconst X dX7_told_75 (v := (0 : Int32)) (by decide) ?_
              refine v_lv (lv' := []) [] rfl ?_
              exact k_X7_told_76 X r h
            · replace h := h.2 c_68
              refine v_iconst X dX7_told_71 (v := (1 : Int32)) (by decide) ?_
              refine v_goto X (tgt := 76) dX7_told_72 (by decide) ?_
              refine v_lv (lv' := []) [] rfl ?_
              exact k_X7_told_76 X r h
          · replace h := h.2 c_52
            refine v_aload_n X 1 dX7_told_55 rfl rfl ?_
            refine v_get X 0 4 (F := TX7) (N := 33) iX7_told_X7 rfl rfl (by decide) (List.mem_of_getElem? (i := 3) rfl) rfl rfl dX7_told_56 ?_
            refine v_iload_n X 2 dX7_told_59 rfl rfl ?_
            refine v_iald X 3 0 rfl rfl h.1 dX7_told_60 ?_
            replace h := h.2
            refine v_goto X (tgt := 79) dX7_told_61 (by decide) ?_
            refine v_lv (lv' := []) [] rfl ?_
            exact k_X7_told_79 X r h
        · replace h := h.2 c_38
          refine v_aload_n X 1 dX7_told_41 rfl rfl ?_
          refine v_get X 0 3 (F := TX7) (N := 33) iX7_told_X7 rfl rfl (by decide) (List.mem_of_getElem? (i := 2) rfl) rfl rfl dX7_told_42 ?_
          refine v_iload_n X 2 dX7_told_45 rfl rfl ?_
          refine v_iald X 5 0 rfl rfl h.1 dX7_told_46 ?_
          replace h := h.2
          refine v_goto X (tgt := 79) dX7_told_47 (by decide) ?_
          refine v_lv (lv' := []) [] rfl ?_
          exact k_X7_told_79 X r h
      · replace h := h.2 c_24
        refine v_aload_n X 1 dX7_told_27 rfl rfl ?_
        refine v_get X 0 5 (F := TX7) (N := 33) iX7_told_X7 rfl rfl (by decide) (List.mem_of_getElem? (i := 1) rfl) rfl rfl dX7_told_28 ?_
        refine v_iload_n X 2 dX7_told_31 rfl rfl ?_
        refine v_iald X 2 0 rfl rfl h.1 dX7_told_32 ?_
        replace h := h.2
        refine v_goto X (tgt := 79) dX7_told_33 (by decide) ?_
        refine v_lv (lv' := []) [] rfl ?_
        exact k_X7_told_79 X r h
    · replace h := h.2 c_18
      refine v_iload_n X 0 dX7_told_21 rfl rfl ?_
      exact r _ _ _ (u_13_0, u_13_1) _ dX7_told_22 h rfl
  · replace h := h.2 c_6
    refine v_iconst X dX7_told_9 (v := (-1 : Int32)) (by decide) ?_
    exact r _ _ _ (s_p0_finding, s_p0_findings) _ dX7_told_10 h rfl
-- X7_mark
abbrev cl_X7_mark (T : Nat → ClassId) (o_p0 : Nat) (a_p0 : Nat → Nat) (s_p0_finding : Int32) (s_p0_asked : Int64) (s_p0_newPoints : Int32) (s_p0_newLines : Int32) (s_p0_faultAt : Int64) (s_p0_tries : Int32) (s_p0_things : Int32) (s_p0_goals : Int32) (s_p0_level : Int32) (s_p0_findings : Nat → Int32) (s_p0_kinds : Nat → Int32) (s_p0_lineCount : Nat → Int32) (s_p0_lines : Nat → Int64) (s_p0_marks : Nat → Int32) (s_p0_points : Nat → Int32) : va_W := [vO o_p0 4 [.int s_p0_finding, .ref (a_p0 1), .long s_p0_asked, .ref (a_p0 3), .ref (a_p0 4), .ref (a_p0 5), .ref (a_p0 6), .ref (a_p0 7), .int s_p0_newPoints, .int s_p0_newLines, .ref (a_p0 10), .ref (a_p0 11), .long s_p0_faultAt, .int s_p0_tries, .int s_p0_things, .int s_p0_goals, .ref (a_p0 16), .ref (a_p0 17), .ref (a_p0 18), .ref (a_p0 19), .ref (a_p0 20), .ref (a_p0 21), .int s_p0_level, .ref (a_p0 23), .ref (a_p0 24), .ref (a_p0 25), .ref (a_p0 26), .ref (a_p0 27), .ref (a_p0 28), .ref (a_p0 29), .ref (a_p0 30), .ref (a_p0 31), .ref (a_p0 32)], vI T (a_p0 1) 6 s_p0_findings, vI T (a_p0 5) 6 s_p0_kinds, vI T (a_p0 4) 6 s_p0_lineCount, vJ T (a_p0 7) 270 s_p0_lines, vI T (a_p0 6) 6 s_p0_marks, vI T (a_p0 3) 6 s_p0_points]
abbrev r_X7_mark (E : vE) (T : Nat → ClassId) (o_p0 : Nat) (a_p0 : Nat → Nat) (s_p0_asked : Int64) (s_p0_newPoints : Int32) (s_p0_newLines : Int32) (s_p0_faultAt : Int64) (s_p0_tries : Int32) (s_p0_things : Int32) (s_p0_goals : Int32) (s_p0_level : Int32) (s_p0_kinds : Nat → Int32) (s_p0_lineCount : Nat → Int32) (s_p0_lines : Nat → Int64) (s_p0_marks : Nat → Int32) (s_p0_points : Nat → Int32) (Q : Int32 → (Int32) → (Nat → Int32) → Prop) : Prop := vRi E cX7_mark (fun v (u : (Int32) × (Nat → Int32)) => Q v u.1 u.2) (fun (u : (Int32) × (Nat → Int32)) => (cl_X7_mark T o_p0 a_p0 u.1 s_p0_asked s_p0_newPoints s_p0_newLines s_p0_faultAt s_p0_tries s_p0_things s_p0_goals s_p0_level u.2 s_p0_kinds s_p0_lineCount s_p0_lines s_p0_marks s_p0_points))
def w_X7_mark_64 (t_0 : Int32) (s_p0_finding : Int32) (s_p0_findings : Nat → Int32) (s_p0_kinds : Nat → Int32) (s_p0_lineCount : Nat → Int32) (s_p0_lines : Nat → Int64) (s_p0_marks : Nat → Int32) (s_p0_points : Nat → Int32) (Q : Int32 → (Int32) → (Nat → Int32) → Prop) : Prop := (Q t_0 s_p0_finding s_p0_findings)
def w_X7_mark (x_1 : Int32) (x_2 : Int32) (s_p0_finding : Int32) (s_p0_findings : Nat → Int32) (s_p0_kinds : Nat → Int32) (s_p0_lineCount : Nat → Int32) (s_p0_lines : Nat → Int64) (s_p0_marks : Nat → Int32) (s_p0_points : Nat → Int32) (Q : Int32 → (Int32) → (Nat → Int32) → Prop) : Prop := (w_X7_in x_2 (1 : Int32) (3 : Int32) (fun (r_3 : Int32) => ((¬ r_3 = 0 → (w_X7_looked x_1 s_p0_finding s_p0_findings s_p0_points (fun (r_13 : Int32) (u_13_0 : Int32) (u_13_1 : Nat → Int32) => ((0 ≤ r_13 → (vp_in x_1 6 ∧ (((s_p0_kinds (x_1).toNatClampNeg) = x_2 → ((¬ x_2 = (3 : Int32) → (vp_in x_1 6 ∧ (w_X7_mark_64 (s_p0_marks (x_1).toNatClampNeg) u_13_0 u_13_1 s_p0_kinds s_p0_lineCount s_p0_lines s_p0_marks s_p0_points Q))) ∧ (x_2 = (3 : Int32) → (w_X7_through x_1 (0 : Int32) s_p0_lineCount s_p0_lines (fun (r_49 : Int64) => (w_X7_bits r_49 (fun (r_52 : Int32) => (w_X7_mark_64 r_52 u_13_0 u_13_1 s_p0_kinds s_p0_lineCount s_p0_lines s_p0_marks s_p0_points Q)))))))) ∧ (¬ (s_p0_kinds (x_1).toNatClampNeg) = x_2 → (w_X7_meets (3 : Int32) u_13_0 u_13_1 (fun (r_35 : Int32) (u_35_0 : Int32) (u_35_1 : Nat → Int32) => (w_X7_mark_64 r_35 u_35_0 u_35_1 s_p0_kinds s_p0_lineCount s_p0_lines s_p0_marks s_p0_points Q))))))) ∧ (¬ 0 ≤ r_13 → (Q r_13 u_13_0 u_13_1)))))) ∧ (r_3 = 0 → (Q (-1 : Int32) s_p0_finding s_p0_findings)))))
-- X7_mark
theorem iX7_mark_X7 : ∀ w ∈ wsX70, w ∈ wsX7_mark := by decide +kernel
set_option maxHeartbeats 4000000 in
set_option maxRecDepth 100000 in
theorem k_X7_mark_64 {E : vE} {T : Nat → ClassId} {o_p0 : Nat} {a_p0 : Nat → Nat} {s_p0_finding : Int32} {s_p0_asked : Int64} {s_p0_newPoints : Int32} {s_p0_newLines : Int32} {s_p0_faultAt : Int64} {s_p0_tries : Int32} {s_p0_things : Int32} {s_p0_goals : Int32} {s_p0_level : Int32} {s_p0_findings : Nat → Int32} {s_p0_kinds : Nat → Int32} {s_p0_lineCount : Nat → Int32} {s_p0_lines : Nat → Int64} {s_p0_marks : Nat → Int32} {s_p0_points : Nat → Int32} {t_0 : Int32} {Q : Int32 → (Int32) → (Nat → Int32) → Prop} (X : vX E cX7_mark 4 RX7 wsX7_mark (vT T) (vr 3 63)) (r : r_X7_mark E T o_p0 a_p0 s_p0_asked s_p0_newPoints s_p0_newLines s_p0_faultAt s_p0_tries s_p0_things s_p0_goals s_p0_level s_p0_kinds s_p0_lineCount s_p0_lines s_p0_marks s_p0_points Q) (h : w_X7_mark_64 t_0 s_p0_finding s_p0_findings s_p0_kinds s_p0_lineCount s_p0_lines s_p0_marks s_p0_points Q) : V E 0 0 64 [] [.int t_0] (cl_X7_mark T o_p0 a_p0 s_p0_finding s_p0_asked s_p0_newPoints s_p0_newLines s_p0_faultAt s_p0_tries s_p0_things s_p0_goals s_p0_level s_p0_findings s_p0_kinds s_p0_lineCount s_p0_lines s_p0_marks s_p0_points) := by
  unfold w_X7_mark_64 at h
  exact r _ _ _ (s_p0_finding, s_p0_findings) _ dX7_mark_64 h rfl
set_option maxHeartbeats 4000000 in
set_option maxRecDepth 100000 in
theorem c_X7_mark {l : Launch} {D : va_G} {T : Nat → ClassId} {o_p0 : Nat} {a_p0 : Nat → Nat} {s_p0_finding : Int32} {s_p0_asked : Int64} {s_p0_newPoints : Int32} {s_p0_newLines : Int32} {s_p0_faultAt : Int64} {s_p0_tries : Int32} {s_p0_things : Int32} {s_p0_goals : Int32} {s_p0_level : Int32} {s_p0_findings : Nat → Int32} {s_p0_kinds : Nat → Int32} {s_p0_lineCount : Nat → Int32} {s_p0_lines : Nat → Int64} {s_p0_marks : Nat → Int32} {s_p0_points : Nat → Int32} {x_1 : Int32} {x_2 : Int32} {Q : Int32 → (Int32) → (Nat → Int32) → Prop} (h : w_X7_mark x_1 x_2 s_p0_finding s_p0_findings s_p0_kinds s_p0_lineCount s_p0_lines s_p0_marks s_p0_points Q) : vCi l D (vT T) yX7_mark wsX7_mark (vr 3 63) [.ref o_p0, .int x_1, .int x_2] (cl_X7_mark T o_p0 a_p0 s_p0_finding s_p0_asked s_p0_newPoints s_p0_newLines s_p0_faultAt s_p0_tries s_p0_things s_p0_goals s_p0_level s_p0_findings s_p0_kinds s_p0_lineCount s_p0_lines s_p0_marks s_p0_points) (fun v (u : (Int32) × (Nat → Int32)) => Q v u.1 u.2) (fun (u : (Int32) × (Nat → Int32)) => (cl_X7_mark T o_p0 a_p0 u.1 s_p0_asked s_p0_newPoints s_p0_newLines s_p0_faultAt s_p0_tries s_p0_things s_p0_goals s_p0_level u.2 s_p0_kinds s_p0_lineCount s_p0_lines s_p0_marks s_p0_points)) := by
  refine vC_i (cc := cX7_mark) (nL := 4) (by decide +kernel) rfl ⟨rfl, rfl⟩ (Nat.le_of_ble_eq_true rfl) rfl ?_
  intro E el eD X r
  unfold w_X7_mark at h
  refine v_iload_n X 2 dX7_mark_0 rfl rfl ?_
  refine v_iconst X dX7_mark_1 (v := (1 : Int32)) (by decide) ?_
  refine v_iconst X dX7_mark_2 (v := (3 : Int32)) (by decide) ?_
  refine v_callSi0 X (As := [.int x_2, .int (1 : Int32), .int (3 : Int32)]) (rest := []) 3 (c_X7_in (l := vl E) (D := vD E) (T := T) (x_0 := x_2) (x_1 := (1 : Int32)) (x_2 := (3 : Int32)) h) gX7_mark_X7_in rfl rfl (by decide +kernel) ⟨Nat.zero_le _, Nat.zero_le _⟩ ⟨rfl, rfl, by decide, by decide⟩ (Nat.le_of_ble_eq_true rfl) rfl dX7_mark_3 (fun r_3 h => ?_)
  refine v_if_ne X (tgt := 11) dX7_mark_6 (by decide) (fun c_6 => ?_) (fun c_6 => ?_)
  · replace h := h.1 c_6
    refine v_aload_n X 0 dX7_mark_11 rfl rfl ?_
    refine v_iload_n X 1 dX7_mark_12 rfl rfl ?_
    refine v_callVi X (As := [.int x_1]) (rest := []) 1 0 (c_X7_looked (l := vl E) (D := vD E) (T := T) (o_p0 := o_p0) (a_p0 := a_p0) (s_p0_finding := s_p0_finding) (s_p0_asked := s_p0_asked) (s_p0_newPoints := s_p0_newPoints) (s_p0_newLines := s_p0_newLines) (s_p0_faultAt := s_p0_faultAt) (s_p0_tries := s_p0_tries) (s_p0_things := s_p0_things) (s_p0_goals := s_p0_goals) (s_p0_level := s_p0_level) (s_p0_findings := s_p0_findings) (s_p0_points := s_p0_points) (x_1 := x_1) h) gX7_mark_X7_looked rfl rfl (by decide +kernel) ⟨Nat.zero_le _, Nat.zero_le _⟩ ⟨rfl, rfl, by decide, by decide⟩ (Nat.le_of_ble_eq_true rfl) rfl rfl (wr := [vI T (a_p0 5) 6 s_p0_kinds, vI T (a_p0 4) 6 s_p0_lineCount, vJ T (a_p0 7) 270 s_p0_lines, vI T (a_p0 6) 6 s_p0_marks]) [0, 1, 6] [2, 3, 4, 5] rfl rfl rfl rfl (by decide) rfl dX7_mark_13 (fun r_13 u h => ?_)
    obtain ⟨u_13_0, u_13_1⟩ := u
    dsimp only at h
    refine v_ws (ws' := (cl_X7_mark T o_p0 a_p0 u_13_0 s_p0_asked s_p0_newPoints s_p0_newLines s_p0_faultAt s_p0_tries s_p0_things s_p0_goals s_p0_level u_13_1 s_p0_kinds s_p0_lineCount s_p0_lines s_p0_marks s_p0_points)) [4, 5, 0, 1, 2, 3, 6] rfl rfl ?_
    refine v_istore_n X (lv' := [(3, .int r_13), (0, .ref o_p0), (1, .int x_1), (2, .int x_2)]) dX7_mark_16 rfl (by decide) rfl ?_
    refine v_iload_n X 0 dX7_mark_17 rfl rfl ?_
    refine v_if_ge X (tgt := 23) dX7_mark_18 (by decide) (fun c_18 => ?_) (fun c_18 => ?_)
    · replace h := h.1 c_18
      refine v_aload_n X 1 dX7_mark_23 rfl rfl ?_
      refine v_get X 0 5 (F := TX7) (N := 33) iX7_mark_X7 rfl rfl (by decide) (List.mem_of_getElem? (i := 1) rfl) rfl rfl dX7_mark_24 ?_
      refine v_iload_n X 2 dX7_mark_27 rfl rfl ?_
      refine v_iald X 2 0 rfl rfl h.1 dX7_mark_28 ?_
      replace h := h.2
      refine v_iload_n X 3 dX7_mark_29 rfl rfl ?_
      refine v_icmp_eq X (tgt := 41) dX7_mark_30 (by decide) (fun c_30 => ?_) (fun c_30 => ?_)
      · replace h := h.1 c_30
        refine v_iload_n X 3 dX7_mark_41 rfl rfl ?_
        refine v_iconst X dX7_mark_42 (v := (3 : Int32)) (by decide) ?_
        refine v_icmp_ne X (tgt := 58) dX7_mark_43 (by decide) (fun c_43 => ?_) (fun c_43 => ?_)
        · replace h := h.1 c_43
          refine v_aload_n X 1 dX7_mark_58 rfl rfl ?_
          refine v_get X 0 6 (F := TX7) (N := 33) iX7_mark_X7 rfl rfl (by decide) (List.mem_of_getElem? (i := 2) rfl) rfl rfl dX7_mark_59 ?_
          refine v_iload_n X 2 dX7_mark_62 rfl rfl ?_
          refine v_iald X 5 0 rfl rfl h.1 dX7_mark_63 ?_
          replace h := h.2
          refine v_lv (lv' := []) [] rfl ?_
          exact k_X7_mark_64 X r h
        · replace h := h.2 c_43
          refine v_aload_n X 1 dX7_mark_46 rfl rfl ?_
          refine v_iload_n X 2 dX7_mark_47 rfl rfl ?_
          refine v_iconst X dX7_mark_48 (v := (0 : Int32)) (by decide) ?_
          refine v_callVl X (As := [.int x_1, .int (0 : Int32)]) (rest := []) 2 0 (c_X7_through (l := vl E) (D := vD E) (T := T) (o_p0 := o_p0) (a_p0 := a_p0) (s_p0_finding := u_13_0) (s_p0_asked := s_p0_asked) (s_p0_newPoints := s_p0_newPoints) (s_p0_newLines := s_p0_newLines) (s_p0_faultAt := s_p0_faultAt) (s_p0_tries := s_p0_tries) (s_p0_things := s_p0_things) (s_p0_goals := s_p0_goals) (s_p0_level := s_p0_level) (s_p0_lineCount := s_p0_lineCount) (s_p0_lines := s_p0_lines) (x_1 := x_1) (x_2 := (0 : Int32)) h) gX7_mark_X7_through rfl rfl (by decide +kernel) ⟨Nat.zero_le _, Nat.zero_le _⟩ ⟨rfl, rfl, by decide, by decide⟩ (Nat.le_of_ble_eq_true rfl) rfl rfl (wr := [vI T (a_p0 1) 6 u_13_1, vI T (a_p0 5) 6 s_p0_kinds, vI T (a_p0 6) 6 s_p0_marks, vI T (a_p0 3) 6 s_p0_points]) [0, 3, 4] [1, 2, 5, 6] rfl rfl rfl rfl (by decide) rfl dX7_mark_49 (fun r_49 u h => ?_)
          refine v_ws (ws' := (cl_X7_mark T o_p0 a_p0 u_13_0 s_p0_asked s_p0_newPoints s_p0_newLines s_p0_faultAt s_p0_tries s_p0_things s_p0_goals s_p0_level u_13_1 s_p0_kinds s_p0_lineCount s_p0_lines s_p0_marks s_p0_points)) [4, 0, 1, 5, 6, 2, 3] rfl rfl ?_
          refine v_callSi0 X (As := [.long r_49]) (rest := []) 1 (c_X7_bits (l := vl E) (D := vD E) (T := T) (x_0 := r_49) h) gX7_mark_X7_bits rfl rfl (by decide +kernel) ⟨Nat.zero_le _, Nat.zero_le _⟩ ⟨rfl, rfl, by decide, by decide⟩ (Nat.le_of_ble_eq_true rfl) rfl dX7_mark_52 (fun r_52 h => ?_)
          refine v_goto X (tgt := 64) dX7_mark_55 (by decide) ?_
          refine v_lv (lv' := []) [] rfl ?_
          exact k_X7_mark_64 X r h
      · replace h := h.2 c_30
        refine v_aload_n X 1 dX7_mark_33 rfl rfl ?_
        refine v_iconst X dX7_mark_34 (v := (3 : Int32)) (by decide) ?_
        refine v_callVi X (As := [.int (3 : Int32)]) (rest := []) 1 0 (c_X7_meets (l := vl E) (D := vD E) (T := T) (o_p0 := o_p0) (a_p0 := a_p0) (s_p0_finding := u_13_0) (s_p0_asked := s_p0_asked) (s_p0_newPoints := s_p0_newPoints) (s_p0_newLines := s_p0_newLines) (s_p0_faultAt := s_p0_faultAt) (s_p0_tries := s_p0_tries) (s_p0_things := s_p0_things) (s_p0_goals := s_p0_goals) (s_p0_level := s_p0_level) (s_p0_findings := u_13_1) (x_1 := (3 : Int32)) h) gX7_mark_X7_meets rfl rfl (by decide +kernel) ⟨Nat.zero_le _, Nat.zero_le _⟩ ⟨rfl, rfl, by decide, by decide⟩ (Nat.le_of_ble_eq_true rfl) rfl rfl (wr := [vI T (a_p0 5) 6 s_p0_kinds, vI T (a_p0 4) 6 s_p0_lineCount, vJ T (a_p0 7) 270 s_p0_lines, vI T (a_p0 6) 6 s_p0_marks, vI T (a_p0 3) 6 s_p0_points]) [0, 1] [2, 3, 4, 5, 6] rfl rfl rfl rfl (by decide) rfl dX7_mark_35 (fun r_35 u h => ?_)
        obtain ⟨u_35_0, u_35_1⟩ := u
        dsimp only at h
        refine v_ws (ws' := (cl_X7_mark T o_p0 a_p0 u_35_0 s_p0_asked s_p0_newPoints s_p0_newLines s_p0_faultAt s_p0_tries s_p0_things s_p0_goals s_p0_level u_35_1 s_p0_kinds s_p0_lineCount s_p0_lines s_p0_marks s_p0_points)) [5, 6, 0, 1, 2, 3, 4] rfl rfl ?_
        refine v_goto X (tgt := 64) dX7_mark_38 (by decide) ?_
        refine v_lv (lv' := []) [] rfl ?_
        exact k_X7_mark_64 X r h
    · replace h := h.2 c_18
      refine v_iload_n X 0 dX7_mark_21 rfl rfl ?_
      exact r _ _ _ (u_13_0, u_13_1) _ dX7_mark_22 h rfl
  · replace h := h.2 c_6
    refine v_iconst X dX7_mark_9 (v := (-1 : Int32)) (by decide) ?_
    exact r _ _ _ (s_p0_finding, s_p0_findings) _ dX7_mark_10 h rfl