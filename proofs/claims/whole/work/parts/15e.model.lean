-- X7_asked
abbrev cl_X7_asked (T : Nat → ClassId) (o_p0 : Nat) (a_p0 : Nat → Nat) (s_p0_finding : Int32) (s_p0_asked : Int64) (s_p0_newPoints : Int32) (s_p0_newLines : Int32) (s_p0_faultAt : Int64) (s_p0_tries : Int32) (s_p0_things : Int32) (s_p0_goals : Int32) (s_p0_level : Int32) : va_W := [vO o_p0 4 [.int s_p0_finding, .ref (a_p0 1), .long s_p0_asked, .ref (a_p0 3), .ref (a_p0 4), .ref (a_p0 5), .ref (a_p0 6), .ref (a_p0 7), .int s_p0_newPoints, .int s_p0_newLines, .ref (a_p0 10), .ref (a_p0 11), .long s_p0_faultAt, .int s_p0_tries, .int s_p0_things, .int s_p0_goals, .ref (a_p0 16), .ref (a_p0 17), .ref (a_p0 18), .ref (a_p0 19), .ref (a_p0 20), .ref (a_p0 21), .int s_p0_level, .ref (a_p0 23), .ref (a_p0 24), .ref (a_p0 25), .ref (a_p0 26), .ref (a_p0 27), .ref (a_p0 28), .ref (a_p0 29), .ref (a_p0 30), .ref (a_p0 31), .ref (a_p0 32)]]
abbrev r_X7_asked (E : vE) (T : Nat → ClassId) (o_p0 : Nat) (a_p0 : Nat → Nat) (s_p0_finding : Int32) (s_p0_asked : Int64) (s_p0_newPoints : Int32) (s_p0_newLines : Int32) (s_p0_faultAt : Int64) (s_p0_tries : Int32) (s_p0_things : Int32) (s_p0_goals : Int32) (s_p0_level : Int32) (Q : Int64 → Prop) : Prop := vRl E cX7_asked (fun v (u : Unit) => Q v) (fun (u : Unit) => (cl_X7_asked T o_p0 a_p0 s_p0_finding s_p0_asked s_p0_newPoints s_p0_newLines s_p0_faultAt s_p0_tries s_p0_things s_p0_goals s_p0_level))
def w_X7_asked (s_p0_asked : Int64) (Q : Int64 → Prop) : Prop := (Q s_p0_asked)
-- X7_asked
theorem iX7_asked_X7 : ∀ w ∈ wsX70, w ∈ wsX7_asked := by decide +kernel
set_option maxHeartbeats 4000000 in
set_option maxRecDepth 100000 in
theorem c_X7_asked {l : Launch} {D : va_G} {T : Nat → ClassId} {o_p0 : Nat} {a_p0 : Nat → Nat} {s_p0_finding : Int32} {s_p0_asked : Int64} {s_p0_newPoints : Int32} {s_p0_newLines : Int32} {s_p0_faultAt : Int64} {s_p0_tries : Int32} {s_p0_things : Int32} {s_p0_goals : Int32} {s_p0_level : Int32} {Q : Int64 → Prop} (h : w_X7_asked s_p0_asked Q) : vCl l D (vT T) yX7_asked wsX7_asked (vr 0 0) [.ref o_p0] (cl_X7_asked T o_p0 a_p0 s_p0_finding s_p0_asked s_p0_newPoints s_p0_newLines s_p0_faultAt s_p0_tries s_p0_things s_p0_goals s_p0_level) (fun v (u : Unit) => Q v) (fun (u : Unit) => (cl_X7_asked T o_p0 a_p0 s_p0_finding s_p0_asked s_p0_newPoints s_p0_newLines s_p0_faultAt s_p0_tries s_p0_things s_p0_goals s_p0_level)) := by
  refine vC_l (cc := cX7_asked) (nL := 1) (by decide +kernel) rfl ⟨rfl, rfl⟩ (Nat.le_of_ble_eq_true rfl) rfl ?_
  intro E el eD X r
  unfold w_X7_asked at h
  refine v_aload_n X 0 dX7_asked_0 rfl rfl ?_
  refine v_get X 0 2 (F := TX7) (N := 33) iX7_asked_X7 rfl rfl (by decide) (List.mem_of_getElem? (i := 1) rfl) rfl rfl dX7_asked_1 ?_
  exact r _ _ _ () _ dX7_asked_4 h rfl
-- X7_count
abbrev cl_X7_count (T : Nat → ClassId) (o_p0 : Nat) (a_p0 : Nat → Nat) (s_p0_finding : Int32) (s_p0_asked : Int64) (s_p0_newPoints : Int32) (s_p0_newLines : Int32) (s_p0_faultAt : Int64) (s_p0_tries : Int32) (s_p0_things : Int32) (s_p0_goals : Int32) (s_p0_level : Int32) (s_p0_lineCount : Nat → Int32) (s_p0_points : Nat → Int32) (s_p0_sizes : Nat → Int32) : va_W := [vO o_p0 4 [.int s_p0_finding, .ref (a_p0 1), .long s_p0_asked, .ref (a_p0 3), .ref (a_p0 4), .ref (a_p0 5), .ref (a_p0 6), .ref (a_p0 7), .int s_p0_newPoints, .int s_p0_newLines, .ref (a_p0 10), .ref (a_p0 11), .long s_p0_faultAt, .int s_p0_tries, .int s_p0_things, .int s_p0_goals, .ref (a_p0 16), .ref (a_p0 17), .ref (a_p0 18), .ref (a_p0 19), .ref (a_p0 20), .ref (a_p0 21), .int s_p0_level, .ref (a_p0 23), .ref (a_p0 24), .ref (a_p0 25), .ref (a_p0 26), .ref (a_p0 27), .ref (a_p0 28), .ref (a_p0 29), .ref (a_p0 30), .ref (a_p0 31), .ref (a_p0 32)], vI T (a_p0 4) 6 s_p0_lineCount, vI T (a_p0 3) 6 s_p0_points, vI T (a_p0 30) 4 s_p0_sizes]
abbrev r_X7_count (E : vE) (T : Nat → ClassId) (o_p0 : Nat) (a_p0 : Nat → Nat) (s_p0_finding : Int32) (s_p0_asked : Int64) (s_p0_newPoints : Int32) (s_p0_newLines : Int32) (s_p0_faultAt : Int64) (s_p0_tries : Int32) (s_p0_things : Int32) (s_p0_goals : Int32) (s_p0_level : Int32) (s_p0_lineCount : Nat → Int32) (s_p0_points : Nat → Int32) (s_p0_sizes : Nat → Int32) (Q : Int32 → Prop) : Prop := vRi E cX7_count (fun v (u : Unit) => Q v) (fun (u : Unit) => (cl_X7_count T o_p0 a_p0 s_p0_finding s_p0_asked s_p0_newPoints s_p0_newLines s_p0_faultAt s_p0_tries s_p0_things s_p0_goals s_p0_level s_p0_lineCount s_p0_points s_p0_sizes))
def w_X7_count_118 (t_0 : Int32) (s_p0_lineCount : Nat → Int32) (s_p0_points : Nat → Int32) (s_p0_sizes : Nat → Int32) (Q : Int32 → Prop) : Prop := (Q t_0)
def w_X7_count_96 (x_1 : Int32) (x_3 : Int32) (t_0 : Int32) (t_1 : Int32) (s_p0_lineCount : Nat → Int32) (s_p0_points : Nat → Int32) (s_p0_sizes : Nat → Int32) (K_71 : (Int32) → (Int32) → Prop) (Q : Int32 → Prop) : Prop := (K_71 (t_0 + t_1) (x_3 + (1 : Int32)))
def w_X7_count_95 (x_1 : Int32) (x_3 : Int32) (t_0 : Int32) (s_p0_lineCount : Nat → Int32) (s_p0_points : Nat → Int32) (s_p0_sizes : Nat → Int32) (K_71 : (Int32) → (Int32) → Prop) (Q : Int32 → Prop) : Prop := (w_X7_count_96 x_1 x_3 t_0 (0 : Int32) s_p0_lineCount s_p0_points s_p0_sizes K_71 Q)
def w_X7_count_71s (x_1 : Int32) (s_p0_lineCount : Nat → Int32) (s_p0_points : Nat → Int32) (s_p0_sizes : Nat → Int32) (Q : Int32 → Prop) (K_71 : (Int32) → (Int32) → Prop) (x_2 : Int32) (x_3 : Int32) : Prop := (((4 : Int32) ≤ x_3 → (w_X7_in x_1 (0 : Int32) (3 : Int32) (fun (r_107 : Int32) => ((r_107 = 0 → (w_X7_count_118 (-1 : Int32) s_p0_lineCount s_p0_points s_p0_sizes Q)) ∧ (¬ r_107 = 0 → (w_X7_count_118 x_2 s_p0_lineCount s_p0_points s_p0_sizes Q)))))) ∧ (¬ (4 : Int32) ≤ x_3 → ((¬ x_1 = (3 : Int32) → (w_X7_count_95 x_1 x_3 x_2 s_p0_lineCount s_p0_points s_p0_sizes K_71 Q)) ∧ (x_1 = (3 : Int32) → (vp_in x_3 4 ∧ (((s_p0_sizes (x_3).toNatClampNeg) < 0 → (w_X7_count_95 x_1 x_3 x_2 s_p0_lineCount s_p0_points s_p0_sizes K_71 Q)) ∧ (¬ (s_p0_sizes (x_3).toNatClampNeg) < 0 → (w_X7_count_96 x_1 x_3 x_2 (1 : Int32) s_p0_lineCount s_p0_points s_p0_sizes K_71 Q))))))))
def w_X7_count_71 (x_1 : Int32) (s_p0_lineCount : Nat → Int32) (s_p0_points : Nat → Int32) (s_p0_sizes : Nat → Int32) (Q : Int32 → Prop) : Nat → (Int32) → (Int32) → Prop
  | 0 => fun _ _ => False
  | n_ + 1 => w_X7_count_71s x_1 s_p0_lineCount s_p0_points s_p0_sizes Q (w_X7_count_71 x_1 s_p0_lineCount s_p0_points s_p0_sizes Q n_)
def w_X7_count_61 (x_1 : Int32) (x_3 : Int32) (t_0 : Int32) (t_1 : Int32) (s_p0_lineCount : Nat → Int32) (s_p0_points : Nat → Int32) (s_p0_sizes : Nat → Int32) (K_4 : (Int32) → (Int32) → Prop) (Q : Int32 → Prop) : Prop := (K_4 (t_0 + t_1) (x_3 + (1 : Int32)))
def w_X7_count_4s (x_1 : Int32) (s_p0_lineCount : Nat → Int32) (s_p0_points : Nat → Int32) (s_p0_sizes : Nat → Int32) (Q : Int32 → Prop) (K_4 : (Int32) → (Int32) → Prop) (x_2 : Int32) (x_3 : Int32) : Prop := (((6 : Int32) ≤ x_3 → (∃ n_, w_X7_count_71 x_1 s_p0_lineCount s_p0_points s_p0_sizes Q n_ x_2 (0 : Int32))) ∧ (¬ (6 : Int32) ≤ x_3 → (vp_in x_3 6 ∧ ((¬ (s_p0_points (x_3).toNatClampNeg) = 0 → ((¬ x_1 = 0 → ((¬ x_1 = (1 : Int32) → ((¬ x_1 = (2 : Int32) → (w_X7_count_61 x_1 x_3 x_2 (0 : Int32) s_p0_lineCount s_p0_points s_p0_sizes K_4 Q)) ∧ (x_1 = (2 : Int32) → (vp_in x_3 6 ∧ (w_X7_count_61 x_1 x_3 x_2 (s_p0_lineCount (x_3).toNatClampNeg) s_p0_lineCount s_p0_points s_p0_sizes K_4 Q))))) ∧ (x_1 = (1 : Int32) → (vp_in x_3 6 ∧ (w_X7_count_61 x_1 x_3 x_2 (s_p0_points (x_3).toNatClampNeg) s_p0_lineCount s_p0_points s_p0_sizes K_4 Q))))) ∧ (x_1 = 0 → (w_X7_count_61 x_1 x_3 x_2 (1 : Int32) s_p0_lineCount s_p0_points s_p0_sizes K_4 Q)))) ∧ ((s_p0_points (x_3).toNatClampNeg) = 0 → (w_X7_count_61 x_1 x_3 x_2 (0 : Int32) s_p0_lineCount s_p0_points s_p0_sizes K_4 Q))))))
def w_X7_count_4 (x_1 : Int32) (s_p0_lineCount : Nat → Int32) (s_p0_points : Nat → Int32) (s_p0_sizes : Nat → Int32) (Q : Int32 → Prop) : Nat → (Int32) → (Int32) → Prop
  | 0 => fun _ _ => False
  | n_ + 1 => w_X7_count_4s x_1 s_p0_lineCount s_p0_points s_p0_sizes Q (w_X7_count_4 x_1 s_p0_lineCount s_p0_points s_p0_sizes Q n_)
def w_X7_count (x_1 : Int32) (s_p0_lineCount : Nat → Int32) (s_p0_points : Nat → Int32) (s_p0_sizes : Nat → Int32) (Q : Int32 → Prop) : Prop := (∃ n_, w_X7_count_4 x_1 s_p0_lineCount s_p0_points s_p0_sizes Q n_ (0 : Int32) (0 : Int32))
-- X7_count
theorem iX7_count_X7 : ∀ w ∈ wsX70, w ∈ wsX7_count := by decide +kernel
set_option maxHeartbeats 4000000 in
set_option maxRecDepth 100000 in
theorem k_X7_count_118 {E : vE} {T : Nat → ClassId} {o_p0 : Nat} {a_p0 : Nat → Nat} {s_p0_finding : Int32} {s_p0_asked : Int64} {s_p0_newPoints : Int32} {s_p0_newLines : Int32} {s_p0_faultAt : Int64} {s_p0_tries : Int32} {s_p0_things : Int32} {s_p0_goals : Int32} {s_p0_level : Int32} {s_p0_lineCount : Nat → Int32} {s_p0_points : Nat → Int32} {s_p0_sizes : Nat → Int32} {t_0 : Int32} {Q : Int32 → Prop} (X : vX E cX7_count 4 RX7 wsX7_count (vT T) (vr 1 22)) (r : r_X7_count E T o_p0 a_p0 s_p0_finding s_p0_asked s_p0_newPoints s_p0_newLines s_p0_faultAt s_p0_tries s_p0_things s_p0_goals s_p0_level s_p0_lineCount s_p0_points s_p0_sizes Q) (h : w_X7_count_118 t_0 s_p0_lineCount s_p0_points s_p0_sizes Q) : V E 0 0 118 [] [.int t_0] (cl_X7_count T o_p0 a_p0 s_p0_finding s_p0_asked s_p0_newPoints s_p0_newLines s_p0_faultAt s_p0_tries s_p0_things s_p0_goals s_p0_level s_p0_lineCount s_p0_points s_p0_sizes) := by
  unfold w_X7_count_118 at h
  exact r _ _ _ () _ dX7_count_118 h rfl
set_option maxHeartbeats 4000000 in
set_option maxRecDepth 100000 in
theorem k_X7_count_96 {E : vE} {T : Nat → ClassId} {o_p0 : Nat} {a_p0 : Nat → Nat} {s_p0_finding : Int32} {s_p0_asked : Int64} {s_p0_newPoints : Int32} {s_p0_newLines : Int32} {s_p0_faultAt : Int64} {s_p0_tries : Int32} {s_p0_things : Int32} {s_p0_goals : Int32} {s_p0_level : Int32} {s_p0_lineCount : Nat → Int32} {s_p0_points : Nat → Int32} {s_p0_sizes : Nat → Int32} {x_1 : Int32} {x_3 : Int32} {t_0 : Int32} {t_1 : Int32} {K_71 : (Int32) → (Int32) → Prop} {Q : Int32 → Prop} (X : vX E cX7_count 4 RX7 wsX7_count (vT T) (vr 1 22)) (r : r_X7_count E T o_p0 a_p0 s_p0_finding s_p0_asked s_p0_newPoints s_p0_newLines s_p0_faultAt s_p0_tries s_p0_things s_p0_goals s_p0_level s_p0_lineCount s_p0_points s_p0_sizes Q) (hK_71 : ∀ (x_2' : Int32) (x_3' : Int32), K_71 x_2' x_3' → V E 0 0 71 [(0, .ref o_p0), (1, .int x_1), (2, .int x_2'), (3, .int x_3')] [] (cl_X7_count T o_p0 a_p0 s_p0_finding s_p0_asked s_p0_newPoints s_p0_newLines s_p0_faultAt s_p0_tries s_p0_things s_p0_goals s_p0_level s_p0_lineCount s_p0_points s_p0_sizes)) (h : w_X7_count_96 x_1 x_3 t_0 t_1 s_p0_lineCount s_p0_points s_p0_sizes K_71 Q) : V E 0 0 96 [(0, .ref o_p0), (1, .int x_1), (3, .int x_3)] [.int t_1, .int t_0] (cl_X7_count T o_p0 a_p0 s_p0_finding s_p0_asked s_p0_newPoints s_p0_newLines s_p0_faultAt s_p0_tries s_p0_things s_p0_goals s_p0_level s_p0_lineCount s_p0_points s_p0_sizes) := by
  unfold w_X7_count_96 at h
  refine v_iadd X dX7_count_96 ?_
  refine v_istore_n X (lv' := [(2, .int (t_0 + t_1)), (0, .ref o_p0), (1, .int x_1), (3, .int x_3)]) dX7_count_97 rfl (by decide) rfl ?_
  refine v_iinc X (v := (x_3 + (1 : Int32))) (lv' := [(3, .int (x_3 + (1 : Int32))), (2, .int (t_0 + t_1)), (0, .ref o_p0), (1, .int x_1)]) 3 dX7_count_98 rfl rfl (by decide) rfl ?_
  refine v_goto X (tgt := 71) dX7_count_101 (by decide) ?_
  refine v_lv (lv' := [(0, .ref o_p0), (1, .int x_1), (2, .int (t_0 + t_1)), (3, .int (x_3 + (1 : Int32)))]) [2, 3, 1, 0] rfl ?_
  exact hK_71 _ _ h
set_option maxHeartbeats 4000000 in
set_option maxRecDepth 100000 in
theorem k_X7_count_95 {E : vE} {T : Nat → ClassId} {o_p0 : Nat} {a_p0 : Nat → Nat} {s_p0_finding : Int32} {s_p0_asked : Int64} {s_p0_newPoints : Int32} {s_p0_newLines : Int32} {s_p0_faultAt : Int64} {s_p0_tries : Int32} {s_p0_things : Int32} {s_p0_goals : Int32} {s_p0_level : Int32} {s_p0_lineCount : Nat → Int32} {s_p0_points : Nat → Int32} {s_p0_sizes : Nat → Int32} {x_1 : Int32} {x_3 : Int32} {t_0 : Int32} {K_71 : (Int32) → (Int32) → Prop} {Q : Int32 → Prop} (X : vX E cX7_count 4 RX7 wsX7_count (vT T) (vr 1 22)) (r : r_X7_count E T o_p0 a_p0 s_p0_finding s_p0_asked s_p0_newPoints s_p0_newLines s_p0_faultAt s_p0_tries s_p0_things s_p0_goals s_p0_level s_p0_lineCount s_p0_points s_p0_sizes Q) (hK_71 : ∀ (x_2' : Int32) (x_3' : Int32), K_71 x_2' x_3' → V E 0 0 71 [(0, .ref o_p0), (1, .int x_1), (2, .int x_2'), (3, .int x_3')] [] (cl_X7_count T o_p0 a_p0 s_p0_finding s_p0_asked s_p0_newPoints s_p0_newLines s_p0_faultAt s_p0_tries s_p0_things s_p0_goals s_p0_level s_p0_lineCount s_p0_points s_p0_sizes)) (h : w_X7_count_95 x_1 x_3 t_0 s_p0_lineCount s_p0_points s_p0_sizes K_71 Q) : V E 0 0 95 [(0, .ref o_p0), (1, .int x_1), (3, .int x_3)] [.int t_0] (cl_X7_count T o_p0 a_p0 s_p0_finding s_p0_asked s_p0_newPoints s_p0_newLines s_p0_faultAt s_p0_tries s_p0_things s_p0_goals s_p0_level s_p0_lineCount s_p0_points s_p0_sizes) := by
  unfold w_X7_count_95 at h
  refine v_iconst X dX7_count_95 (v := (0 : Int32)) (by decide) ?_
  exact k_X7_count_96 X r hK_71 h
set_option maxHeartbeats 4000000 in
set_option maxRecDepth 100000 in
theorem k_X7_count_71 {E : vE} {T : Nat → ClassId} {o_p0 : Nat} {a_p0 : Nat → Nat} {s_p0_finding : Int32} {s_p0_asked : Int64} {s_p0_newPoints : Int32} {s_p0_newLines : Int32} {s_p0_faultAt : Int64} {s_p0_tries : Int32} {s_p0_things : Int32} {s_p0_goals : Int32} {s_p0_level : Int32} {s_p0_lineCount : Nat → Int32} {s_p0_points : Nat → Int32} {s_p0_sizes : Nat → Int32} {x_1 : Int32} {Q : Int32 → Prop} (X : vX E cX7_count 4 RX7 wsX7_count (vT T) (vr 1 22)) (r : r_X7_count E T o_p0 a_p0 s_p0_finding s_p0_asked s_p0_newPoints s_p0_newLines s_p0_faultAt s_p0_tries s_p0_things s_p0_goals s_p0_level s_p0_lineCount s_p0_points s_p0_sizes Q) : ∀ (n_ : Nat) (x_2 : Int32) (x_3 : Int32), w_X7_count_71 x_1 s_p0_lineCount s_p0_points s_p0_sizes Q n_ x_2 x_3 → V E 0 0 71 [(0, .ref o_p0), (1, .int x_1), (2, .int x_2), (3, .int x_3)] [] (cl_X7_count T o_p0 a_p0 s_p0_finding s_p0_asked s_p0_newPoints s_p0_newLines s_p0_faultAt s_p0_tries s_p0_things s_p0_goals s_p0_level s_p0_lineCount s_p0_points s_p0_sizes) := by
  intro n_
  induction n_ with
  | zero => intro x_2 x_3 h; exact h.elim
  | succ n_ hK_71 =>
    intro x_2 x_3 h
    replace h : w_X7_count_71s x_1 s_p0_lineCount s_p0_points s_p0_sizes Q (w_X7_count_71 x_1 s_p0_lineCount s_p0_points s_p0_sizes Q n_) x_2 x_3 := h
    unfold w_X7_count_71s at h
    refine v_iload_n X 3 dX7_count_71 rfl rfl ?_
    refine v_iconst X dX7_count_72 (v := (4 : Int32)) (by decide) ?_
    refine v_icmp_ge X (tgt := 104) dX7_count_73 (by decide) (fun c_73 => ?_) (fun c_73 => ?_)
    · replace h := h.1 c_73
      refine v_iload_n X 1 dX7_count_104 rfl rfl ?_
      refine v_iconst X dX7_count_105 (v := (0 : Int32)) (by decide) ?_
      refine v_iconst X dX7_count_106 (v := (3 : Int32)) (by decide) ?_
      refine v_callSi0 X (As := [.int x_1, .int (0 : Int32), .int (3 : Int32)]) (rest := []) 3 (c_X7_in (l := vl E) (D := vD E) (T := T) (x_0 := x_1) (x_1 := (0 : Int32)) (x_2 := (3 : Int32)) h) gX7_count_X7_in rfl rfl (by decide +kernel) ⟨Nat.zero_le _, Nat.zero_le _⟩ ⟨rfl, rfl, by decide, by decide⟩ (Nat.le_of_ble_eq_true rfl) rfl dX7_count_107 (fun r_107 h => ?_)
      refine v_if_eq X (tgt := 117) dX7_count_110 (by decide) (fun c_110 => ?_) (fun c_110 => ?_)
      · replace h := h.1 c_110
        refine v_iconst X dX7_count_117 (v := (-1 : Int32)) (by decide) ?_
        refine v_lv (lv' := []) [] rfl ?_
        exact k_X7_count_118 X r h
      · replace h := h.2 c_110
        refine v_iload_n X 2 dX7_count_113 rfl rfl ?_
        refine v_goto X (tgt := 118) dX7_count_114 (by decide) ?_
        refine v_lv (lv' := []) [] rfl ?_
        exact k_X7_count_118 X r h
    · replace h := h.2 c_73
      refine v_iload_n X 2 dX7_count_76 rfl rfl ?_
      refine v_iload_n X 1 dX7_count_77 rfl rfl ?_
      refine v_iconst X dX7_count_78 (v := (3 : Int32)) (by decide) ?_
      refine v_icmp_ne X (tgt := 95) dX7_count_79 (by decide) (fun c_79 => ?_) (fun c_79 => ?_)
      · replace h := h.1 c_79
        refine v_lv (lv' := [(0, .ref o_p0), (1, .int x_1), (3, .int x_3)]) [0, 1, 3] rfl ?_
        exact k_X7_count_95 X r hK_71 h
      · replace h := h.2 c_79
        refine v_aload_n X 0 dX7_count_82 rfl rfl ?_
        refine v_get X 0 30 (F := TX7) (N := 33) iX7_count_X7 rfl rfl (by decide) (List.mem_of_getElem? (i := 3) rfl) rfl rfl dX7_count_83 ?_
        refine v_iload_n X 3 dX7_count_86 rfl rfl ?_
        refine v_iald X 3 0 rfl rfl h.1 dX7_count_87 ?_
        replace h := h.2
        refine v_if_lt X (tgt := 95) dX7_count_88 (by decide) (fun c_88 => ?_) (fun c_88 => ?_)
        · replace h := h.1 c_88
          refine v_lv (lv' := [(0, .ref o_p0), (1, .int x_1), (3, .int x_3)]) [0, 1, 3] rfl ?_
          exact k_X7_count_95 X r hK_71 h
        · replace h := h.2 c_88
          refine v_iconst X dX7_count_91 (v := (1 : Int32)) (by decide) ?_
          refine v_goto X (tgt := 96) dX7_count_92 (by decide) ?_
          refine v_lv (lv' := [(0, .ref o_p0), (1, .int x_1), (3, .int x_3)]) [0, 1, 3] rfl ?_
          exact k_X7_count_96 X r hK_71 h
set_option maxHeartbeats 4000000 in
set_option maxRecDepth 100000 in
theorem k_X7_count_61 {E : vE} {T : Nat → ClassId} {o_p0 : Nat} {a_p0 : Nat → Nat} {s_p0_finding : Int32} {s_p0_asked : Int64} {s_p0_newPoints : Int32} {s_p0_newLines : Int32} {s_p0_faultAt : Int64} {s_p0_tries : Int32} {s_p0_things : Int32} {s_p0_goals : Int32} {s_p0_level : Int32} {s_p0_lineCount : Nat → Int32} {s_p0_points : Nat → Int32} {s_p0_sizes : Nat → Int32} {x_1 : Int32} {x_3 : Int32} {t_0 : Int32} {t_1 : Int32} {K_4 : (Int32) → (Int32) → Prop} {Q : Int32 → Prop} (X : vX E cX7_count 4 RX7 wsX7_count (vT T) (vr 1 22)) (r : r_X7_count E T o_p0 a_p0 s_p0_finding s_p0_asked s_p0_newPoints s_p0_newLines s_p0_faultAt s_p0_tries s_p0_things s_p0_goals s_p0_level s_p0_lineCount s_p0_points s_p0_sizes Q) (hK_4 : ∀ (x_2' : Int32) (x_3' : Int32), K_4 x_2' x_3' → V E 0 0 4 [(0, .ref o_p0), (1, .int x_1), (2, .int x_2'), (3, .int x_3')] [] (cl_X7_count T o_p0 a_p0 s_p0_finding s_p0_asked s_p0_newPoints s_p0_newLines s_p0_faultAt s_p0_tries s_p0_things s_p0_goals s_p0_level s_p0_lineCount s_p0_points s_p0_sizes)) (h : w_X7_count_61 x_1 x_3 t_0 t_1 s_p0_lineCount s_p0_points s_p0_sizes K_4 Q) : V E 0 0 61 [(0, .ref o_p0), (1, .int x_1), (3, .int x_3)] [.int t_1, .int t_0] (cl_X7_count T o_p0 a_p0 s_p0_finding s_p0_asked s_p0_newPoints s_p0_newLines s_p0_faultAt s_p0_tries s_p0_things s_p0_goals s_p0_level s_p0_lineCount s_p0_points s_p0_sizes) := by
  unfold w_X7_count_61 at h
  refine v_iadd X dX7_count_61 ?_
  refine v_istore_n X (lv' := [(2, .int (t_0 + t_1)), (0, .ref o_p0), (1, .int x_1), (3, .int x_3)]) dX7_count_62 rfl (by decide) rfl ?_
  refine v_iinc X (v := (x_3 + (1 : Int32))) (lv' := [(3, .int (x_3 + (1 : Int32))), (2, .int (t_0 + t_1)), (0, .ref o_p0), (1, .int x_1)]) 3 dX7_count_63 rfl rfl (by decide) rfl ?_
  refine v_goto X (tgt := 4) dX7_count_66 (by decide) ?_
  refine v_lv (lv' := [(0, .ref o_p0), (1, .int x_1), (2, .int (t_0 + t_1)), (3, .int (x_3 + (1 : Int32)))]) [2, 3, 1, 0] rfl ?_
  exact hK_4 _ _ h
set_option maxHeartbeats 4000000 in
set_option maxRecDepth 100000 in
theorem k_X7_count_4 {E : vE} {T : Nat → ClassId} {o_p0 : Nat} {a_p0 : Nat → Nat} {s_p0_finding : Int32} {s_p0_asked : Int64} {s_p0_newPoints : Int32} {s_p0_newLines : Int32} {s_p0_faultAt : Int64} {s_p0_tries : Int32} {s_p0_things : Int32} {s_p0_goals : Int32} {s_p0_level : Int32} {s_p0_lineCount : Nat → Int32} {s_p0_points : Nat → Int32} {s_p0_sizes : Nat → Int32} {x_1 : Int32} {Q : Int32 → Prop} (X : vX E cX7_count 4 RX7 wsX7_count (vT T) (vr 1 22)) (r : r_X7_count E T o_p0 a_p0 s_p0_finding s_p0_asked s_p0_newPoints s_p0_newLines s_p0_faultAt s_p0_tries s_p0_things s_p0_goals s_p0_level s_p0_lineCount s_p0_points s_p0_sizes Q) : ∀ (n_ : Nat) (x_2 : Int32) (x_3 : Int32), w_X7_count_4 x_1 s_p0_lineCount s_p0_points s_p0_sizes Q n_ x_2 x_3 → V E 0 0 4 [(0, .ref o_p0), (1, .int x_1), (2, .int x_2), (3, .int x_3)] [] (cl_X7_count T o_p0 a_p0 s_p0_finding s_p0_asked s_p0_newPoints s_p0_newLines s_p0_faultAt s_p0_tries s_p0_things s_p0_goals s_p0_level s_p0_lineCount s_p0_points s_p0_sizes) := by
  intro n_
  induction n_ with
  | zero => intro x_2 x_3 h; exact h.elim
  | succ n_ hK_4 =>
    intro x_2 x_3 h
    replace h : w_X7_count_4s x_1 s_p0_lineCount s_p0_points s_p0_sizes Q (w_X7_count_4 x_1 s_p0_lineCount s_p0_points s_p0_sizes Q n_) x_2 x_3 := h
    unfold w_X7_count_4s at h
    refine v_iload_n X 3 dX7_count_4 rfl rfl ?_
    refine v_bipush X dX7_count_5 (v := (6 : Int32)) (by decide) ?_
    refine v_icmp_ge X (tgt := 69) dX7_count_7 (by decide) (fun c_7 => ?_) (fun c_7 => ?_)
    · replace h := h.1 c_7
      refine v_iconst X dX7_count_69 (v := (0 : Int32)) (by decide) ?_
      refine v_istore_n X (lv' := [(3, .int (0 : Int32)), (0, .ref o_p0), (1, .int x_1), (2, .int x_2)]) dX7_count_70 rfl (by decide) rfl ?_
      refine v_lv (lv' := [(0, .ref o_p0), (1, .int x_1), (2, .int x_2), (3, .int (0 : Int32))]) [1, 2, 3, 0] rfl ?_
      obtain ⟨n_, h⟩ := h
      exact k_X7_count_71 X r n_ _ _ h
    · replace h := h.2 c_7
      refine v_iload_n X 2 dX7_count_10 rfl rfl ?_
      refine v_aload_n X 0 dX7_count_11 rfl rfl ?_
      refine v_get X 0 3 (F := TX7) (N := 33) iX7_count_X7 rfl rfl (by decide) (List.mem_of_getElem? (i := 1) rfl) rfl rfl dX7_count_12 ?_
      refine v_iload_n X 3 dX7_count_15 rfl rfl ?_
      refine v_iald X 2 0 rfl rfl h.1 dX7_count_16 ?_
      replace h := h.2
      refine v_if_ne X (tgt := 24) dX7_count_17 (by decide) (fun c_17 => ?_) (fun c_17 => ?_)
      · replace h := h.1 c_17
        refine v_iload_n X 1 dX7_count_24 rfl rfl ?_
        refine v_if_ne X (tgt := 32) dX7_count_25 (by decide) (fun c_25 => ?_) (fun c_25 => ?_)
        · replace h := h.1 c_25
          refine v_iload_n X 1 dX7_count_32 rfl rfl ?_
          refine v_iconst X dX7_count_33 (v := (1 : Int32)) (by decide) ?_
          refine v_icmp_ne X (tgt := 46) dX7_count_34 (by decide) (fun c_34 => ?_) (fun c_34 => ?_)
          · replace h := h.1 c_34
            refine v_iload_n X 1 dX7_count_46 rfl rfl ?_
            refine v_iconst X dX7_count_47 (v := (2 : Int32)) (by decide) ?_
            refine v_icmp_ne X (tgt := 60) dX7_count_48 (by decide) (fun c_48 => ?_) (fun c_48 => ?_)
            · replace h := h.1 c_48
              refine v_iconst X dX7_count_60 (v := (0 : Int32)) (by decide) ?_
              refine v_lv (lv' := [(0, .ref o_p0), (1, .int x_1), (3, .int x_3)]) [0, 1, 3] rfl ?_
              exact k_X7_count_61 X r hK_4 h
            · replace h := h.2 c_48
              refine v_aload_n X 0 dX7_count_51 rfl rfl ?_
              refine v_get X 0 4 (F := TX7) (N := 33) iX7_count_X7 rfl rfl (by decide) (List.mem_of_getElem? (i := 2) rfl) rfl rfl dX7_count_52 ?_
              refine v_iload_n X 3 dX7_count_55 rfl rfl ?_
              refine v_iald X 1 0 rfl rfl h.1 dX7_count_56 ?_
              replace h := h.2
              refine v_goto X (tgt := 61) dX7_count_57 (by decide) ?_
              refine v_lv (lv' := [(0, .ref o_p0), (1, .int x_1), (3, .int x_3)]) [0, 1, 3] rfl ?_
              exact k_X7_count_61 X r hK_4 h
          · replace h := h.2 c_34
            refine v_aload_n X 0 dX7_count_37 rfl rfl ?_
            refine v_get X 0 3 (F := TX7) (N := 33) iX7_count_X7 rfl rfl (by decide) (List.mem_of_getElem? (i := 1) rfl) rfl rfl dX7_count_38 ?_
            refine v_iload_n X 3 dX7_count_41 rfl rfl ?_
            refine v_iald X 2 0 rfl rfl h.1 dX7_count_42 ?_
            replace h := h.2
            refine v_goto X (tgt := 61) dX7_count_43 (by decide) ?_
            refine v_lv (lv' := [(0, .ref o_p0), (1, .int x_1), (3, .int x_3)]) [0, 1, 3] rfl ?_
            exact k_X7_count_61 X r hK_4 h
        · replace h := h.2 c_25
          refine v_iconst X dX7_count_28 (v := (1 : Int32)) (by decide) ?_
          refine v_goto X (tgt := 61) dX7_count_29 (by decide) ?_
          refine v_lv (lv' := [(0, .ref o_p0), (1, .int x_1), (3, .int x_3)]) [0, 1, 3] rfl ?_
          exact k_X7_count_61 X r hK_4 h
      · replace h := h.2 c_17
        refine v_iconst X dX7_count_20 (v := (0 : Int32)) (by decide) ?_
        refine v_goto X (tgt := 61) dX7_count_21 (by decide) ?_
        refine v_lv (lv' := [(0, .ref o_p0), (1, .int x_1), (3, .int x_3)]) [0, 1, 3] rfl ?_
        exact k_X7_count_61 X r hK_4 h
set_option maxHeartbeats 4000000 in
set_option maxRecDepth 100000 in
theorem c_X7_count {l : Launch} {D : va_G} {T : Nat → ClassId} {o_p0 : Nat} {a_p0 : Nat → Nat} {s_p0_finding : Int32} {s_p0_asked : Int64} {s_p0_newPoints : Int32} {s_p0_newLines : Int32} {s_p0_faultAt : Int64} {s_p0_tries : Int32} {s_p0_things : Int32} {s_p0_goals : Int32} {s_p0_level : Int32} {s_p0_lineCount : Nat → Int32} {s_p0_points : Nat → Int32} {s_p0_sizes : Nat → Int32} {x_1 : Int32} {Q : Int32 → Prop} (h : w_X7_count x_1 s_p0_lineCount s_p0_points s_p0_sizes Q) : vCi l D (vT T) yX7_count wsX7_count (vr 1 22) [.ref o_p0, .int x_1] (cl_X7_count T o_p0 a_p0 s_p0_finding s_p0_asked s_p0_newPoints s_p0_newLines s_p0_faultAt s_p0_tries s_p0_things s_p0_goals s_p0_level s_p0_lineCount s_p0_points s_p0_sizes) (fun v (u : Unit) => Q v) (fun (u : Unit) => (cl_X7_count T o_p0 a_p0 s_p0_finding s_p0_asked s_p0_newPoints s_p0_newLines s_p0_faultAt s_p0_tries s_p0_things s_p0_goals s_p0_level s_p0_lineCount s_p0_points s_p0_sizes)) := by
  refine vC_i (cc := cX7_count) (nL := 4) (by decide +kernel) rfl ⟨rfl, rfl⟩ (Nat.le_of_ble_eq_true rfl) rfl ?_
  intro E el eD X r
  unfold w_X7_count at h
  refine v_iconst X dX7_count_0 (v := (0 : Int32)) (by decide) ?_
  refine v_istore_n X (lv' := [(2, .int (0 : Int32)), (0, .ref o_p0), (1, .int x_1)]) dX7_count_1 rfl (by decide) rfl ?_
  refine v_iconst X dX7_count_2 (v := (0 : Int32)) (by decide) ?_
  refine v_istore_n X (lv' := [(3, .int (0 : Int32)), (2, .int (0 : Int32)), (0, .ref o_p0), (1, .int x_1)]) dX7_count_3 rfl (by decide) rfl ?_
  refine v_lv (lv' := [(0, .ref o_p0), (1, .int x_1), (2, .int (0 : Int32)), (3, .int (0 : Int32))]) [2, 3, 1, 0] rfl ?_
  obtain ⟨n_, h⟩ := h
  exact k_X7_count_4 X r n_ _ _ h
-- X7_finding
abbrev cl_X7_finding (T : Nat → ClassId) (o_p0 : Nat) (a_p0 : Nat → Nat) (s_p0_finding : Int32) (s_p0_asked : Int64) (s_p0_newPoints : Int32) (s_p0_newLines : Int32) (s_p0_faultAt : Int64) (s_p0_tries : Int32) (s_p0_things : Int32) (s_p0_goals : Int32) (s_p0_level : Int32) : va_W := [vO o_p0 4 [.int s_p0_finding, .ref (a_p0 1), .long s_p0_asked, .ref (a_p0 3), .ref (a_p0 4), .ref (a_p0 5), .ref (a_p0 6), .ref (a_p0 7), .int s_p0_newPoints, .int s_p0_newLines, .ref (a_p0 10), .ref (a_p0 11), .long s_p0_faultAt, .int s_p0_tries, .int s_p0_things, .int s_p0_goals, .ref (a_p0 16), .ref (a_p0 17), .ref (a_p0 18), .ref (a_p0 19), .ref (a_p0 20), .ref (a_p0 21), .int s_p0_level, .ref (a_p0 23), .ref (a_p0 24), .ref (a_p0 25), .ref (a_p0 26), .ref (a_p0 27), .ref (a_p0 28), .ref (a_p0 29), .ref (a_p0 30), .ref (a_p0 31), .ref (a_p0 32)]]
abbrev r_X7_finding (E : vE) (T : Nat → ClassId) (o_p0 : Nat) (a_p0 : Nat → Nat) (s_p0_finding : Int32) (s_p0_asked : Int64) (s_p0_newPoints : Int32) (s_p0_newLines : Int32) (s_p0_faultAt : Int64) (s_p0_tries : Int32) (s_p0_things : Int32) (s_p0_goals : Int32) (s_p0_level : Int32) (Q : Int32 → Prop) : Prop := vRi E cX7_finding (fun v (u : Unit) => Q v) (fun (u : Unit) => (cl_X7_finding T o_p0 a_p0 s_p0_finding s_p0_asked s_p0_newPoints s_p0_newLines s_p0_faultAt s_p0_tries s_p0_things s_p0_goals s_p0_level))
def w_X7_finding (s_p0_finding : Int32) (Q : Int32 → Prop) : Prop := (Q s_p0_finding)
-- X7_finding
theorem iX7_finding_X7 : ∀ w ∈ wsX70, w ∈ wsX7_finding := by decide +kernel
set_option maxHeartbeats 4000000 in
set_option maxRecDepth 100000 in
theorem c_X7_finding {l : Launch} {D : va_G} {T : Nat → ClassId} {o_p0 : Nat} {a_p0 : Nat → Nat} {s_p0_finding : Int32} {s_p0_asked : Int64} {s_p0_newPoints : Int32} {s_p0_newLines : Int32} {s_p0_faultAt : Int64} {s_p0_tries : Int32} {s_p0_things : Int32} {s_p0_goals : Int32} {s_p0_level : Int32} {Q : Int32 → Prop} (h : w_X7_finding s_p0_finding Q) : vCi l D (vT T) yX7_finding wsX7_finding (vr 0 0) [.ref o_p0] (cl_X7_finding T o_p0 a_p0 s_p0_finding s_p0_asked s_p0_newPoints s_p0_newLines s_p0_faultAt s_p0_tries s_p0_things s_p0_goals s_p0_level) (fun v (u : Unit) => Q v) (fun (u : Unit) => (cl_X7_finding T o_p0 a_p0 s_p0_finding s_p0_asked s_p0_newPoints s_p0_newLines s_p0_faultAt s_p0_tries s_p0_things s_p0_goals s_p0_level)) := by
  refine vC_i (cc := cX7_finding) (nL := 1) (by decide +kernel) rfl ⟨rfl, rfl⟩ (Nat.le_of_ble_eq_true rfl) rfl ?_
  intro E el eD X r
  unfold w_X7_finding at h
  refine v_aload_n X 0 dX7_finding_0 rfl rfl ?_
  refine v_get X 0 0 (F := TX7) (N := 33) iX7_finding_X7 rfl rfl (by decide) (List.mem_of_getElem? (i := 1) rfl) rfl rfl dX7_finding_1 ?_
  exact r _ _ _ () _ dX7_finding_4 h rfl
-- X7_findings
abbrev cl_X7_findings (T : Nat → ClassId) (o_p0 : Nat) (a_p0 : Nat → Nat) (s_p0_finding : Int32) (s_p0_asked : Int64) (s_p0_newPoints : Int32) (s_p0_newLines : Int32) (s_p0_faultAt : Int64) (s_p0_tries : Int32) (s_p0_things : Int32) (s_p0_goals : Int32) (s_p0_level : Int32) (s_p0_findings : Nat → Int32) : va_W := [vO o_p0 4 [.int s_p0_finding, .ref (a_p0 1), .long s_p0_asked, .ref (a_p0 3), .ref (a_p0 4), .ref (a_p0 5), .ref (a_p0 6), .ref (a_p0 7), .int s_p0_newPoints, .int s_p0_newLines, .ref (a_p0 10), .ref (a_p0 11), .long s_p0_faultAt, .int s_p0_tries, .int s_p0_things, .int s_p0_goals, .ref (a_p0 16), .ref (a_p0 17), .ref (a_p0 18), .ref (a_p0 19), .ref (a_p0 20), .ref (a_p0 21), .int s_p0_level, .ref (a_p0 23), .ref (a_p0 24), .ref (a_p0 25), .ref (a_p0 26), .ref (a_p0 27), .ref (a_p0 28), .ref (a_p0 29), .ref (a_p0 30), .ref (a_p0 31), .ref (a_p0 32)], vI T (a_p0 1) 6 s_p0_findings]
abbrev r_X7_findings (E : vE) (T : Nat → ClassId) (o_p0 : Nat) (a_p0 : Nat → Nat) (s_p0_finding : Int32) (s_p0_asked : Int64) (s_p0_newPoints : Int32) (s_p0_newLines : Int32) (s_p0_faultAt : Int64) (s_p0_tries : Int32) (s_p0_things : Int32) (s_p0_goals : Int32) (s_p0_level : Int32) (s_p0_findings : Nat → Int32) (Q : Int32 → Prop) : Prop := vRi E cX7_findings (fun v (u : Unit) => Q v) (fun (u : Unit) => (cl_X7_findings T o_p0 a_p0 s_p0_finding s_p0_asked s_p0_newPoints s_p0_newLines s_p0_faultAt s_p0_tries s_p0_things s_p0_goals s_p0_level s_p0_findings))
def w_X7_findings_19 (t_0 : Int32) (s_p0_findings : Nat → Int32) (Q : Int32 → Prop) : Prop := (Q t_0)
def w_X7_findings (x_1 : Int32) (s_p0_findings : Nat → Int32) (Q : Int32 → Prop) : Prop := (w_X7_in x_1 (1 : Int32) (5 : Int32) (fun (r_3 : Int32) => ((r_3 = 0 → (w_X7_findings_19 (-1 : Int32) s_p0_findings Q)) ∧ (¬ r_3 = 0 → (vp_in x_1 6 ∧ (w_X7_findings_19 (s_p0_findings (x_1).toNatClampNeg) s_p0_findings Q))))))
-- X7_findings
theorem iX7_findings_X7 : ∀ w ∈ wsX70, w ∈ wsX7_findings := by decide +kernel
set_option maxHeartbeats 4000000 in
set_option maxRecDepth 100000 in
theorem k_X7_findings_19 {E : vE} {T : Nat → ClassId} {o_p0 : Nat} {a_p0 : Nat → Nat} {s_p0_finding : Int32} {s_p0_asked : Int64} {s_p0_newPoints : Int32} {s_p0_newLines : Int32} {s_p0_faultAt : Int64} {s_p0_tries : Int32} {s_p0_things : Int32} {s_p0_goals : Int32} {s_p0_level : Int32} {s_p0_findings : Nat → Int32} {t_0 : Int32} {Q : Int32 → Prop} (X : vX E cX7_findings 2 RX7 wsX7_findings (vT T) (vr 1 22)) (r : r_X7_findings E T o_p0 a_p0 s_p0_finding s_p0_asked s_p0_newPoints s_p0_newLines s_p0_faultAt s_p0_tries s_p0_things s_p0_goals s_p0_level s_p0_findings Q) (h : w_X7_findings_19 t_0 s_p0_findings Q) : V E 0 0 19 [] [.int t_0] (cl_X7_findings T o_p0 a_p0 s_p0_finding s_p0_asked s_p0_newPoints s_p0_newLines s_p0_faultAt s_p0_tries s_p0_things s_p0_goals s_p0_level s_p0_findings) := by
  unfold w_X7_findings_19 at h
  exact r _ _ _ () _ dX7_findings_19 h rfl
set_option maxHeartbeats 4000000 in
set_option maxRecDepth 100000 in
theorem c_X7_findings {l : Launch} {D : va_G} {T : Nat → ClassId} {o_p0 : Nat} {a_p0 : Nat → Nat} {s_p0_finding : Int32} {s_p0_asked : Int64} {s_p0_newPoints : Int32} {s_p0_newLines : Int32} {s_p0_faultAt : Int64} {s_p0_tries : Int32} {s_p0_things : Int32} {s_p0_goals : Int32} {s_p0_level : Int32} {s_p0_findings : Nat → Int32} {x_1 : Int32} {Q : Int32 → Prop} (h : w_X7_findings x_1 s_p0_findings Q) : vCi l D (vT T) yX7_findings wsX7_findings (vr 1 22) [.ref o_p0, .int x_1] (cl_X7_findings T o_p0 a_p0 s_p0_finding s_p0_asked s_p0_newPoints s_p0_newLines s_p0_faultAt s_p0_tries s_p0_things s_p0_goals s_p0_level s_p0_findings) (fun v (u : Unit) => Q v) (fun (u : Unit) => (cl_X7_findings T o_p0 a_p0 s_p0_finding s_p0_asked s_p0_newPoints s_p0_newLines s_p0_faultAt s_p0_tries s_p0_things s_p0_goals s_p0_level s_p0_findings)) := by
  refine vC_i (cc := cX7_findings) (nL := 2) (by decide +kernel) rfl ⟨rfl, rfl⟩ (Nat.le_of_ble_eq_true rfl) rfl ?_
  intro E el eD X r
  unfold w_X7_findings at h
  refine v_iload_n X 1 dX7_findings_0 rfl rfl ?_
  refine v_iconst X dX7_findings_1 (v := (1 : Int32)) (by decide) ?_
  refine v_iconst X dX7_findings_2 (v := (5 : Int32)) (by decide) ?_
  refine v_callSi0 X (As := [.int x_1, .int (1 : Int32), .int (5 : Int32)]) (rest := []) 3 (c_X7_in (l := vl E) (D := vD E) (T := T) (x_0 := x_1) (x_1 := (1 : Int32)) (x_2 := (5 : Int32)) h) gX7_findings_X7_in rfl rfl (by decide +kernel) ⟨Nat.zero_le _, Nat.zero_le _⟩ ⟨rfl, rfl, by decide, by decide⟩ (Nat.le_of_ble_eq_true rfl) rfl dX7_findings_3 (fun r_3 h => ?_)
  refine v_if_eq X (tgt := 18) dX7_findings_6 (by decide) (fun c_6 => ?_) (fun c_6 => ?_)
  · replace h := h.1 c_6
    refine v_iconst X dX7_findings_18 (v := (-1 : Int32)) (by decide) ?_
    refine v_lv (lv' := []) [] rfl ?_
    exact k_X7_findings_19 X r h
  · replace h := h.2 c_6
    refine v_aload_n X 0 dX7_findings_9 rfl rfl ?_
    refine v_get X 0 1 (F := TX7) (N := 33) iX7_findings_X7 rfl rfl (by decide) (List.mem_of_getElem? (i := 1) rfl) rfl rfl dX7_findings_10 ?_
    refine v_iload_n X 1 dX7_findings_13 rfl rfl ?_
    refine v_iald X 1 0 rfl rfl h.1 dX7_findings_14 ?_
    replace h := h.2
    refine v_goto X (tgt := 19) dX7_findings_15 (by decide) ?_
    refine v_lv (lv' := []) [] rfl ?_
    exact k_X7_findings_19 X r h
-- X7_digest
abbrev cl_X7_digest (T : Nat → ClassId) (o_p0 : Nat) (a_p0 : Nat → Nat) (s_p0_finding : Int32) (s_p0_asked : Int64) (s_p0_newPoints : Int32) (s_p0_newLines : Int32) (s_p0_faultAt : Int64) (s_p0_tries : Int32) (s_p0_things : Int32) (s_p0_goals : Int32) (s_p0_level : Int32) (s_p0_kinds : Nat → Int32) (s_p0_lineCount : Nat → Int32) (s_p0_lines : Nat → Int64) (s_p0_points : Nat → Int32) (s_p0_rows : Nat → Int32) (s_p0_sizes : Nat → Int32) : va_W := [vO o_p0 4 [.int s_p0_finding, .ref (a_p0 1), .long s_p0_asked, .ref (a_p0 3), .ref (a_p0 4), .ref (a_p0 5), .ref (a_p0 6), .ref (a_p0 7), .int s_p0_newPoints, .int s_p0_newLines, .ref (a_p0 10), .ref (a_p0 11), .long s_p0_faultAt, .int s_p0_tries, .int s_p0_things, .int s_p0_goals, .ref (a_p0 16), .ref (a_p0 17), .ref (a_p0 18), .ref (a_p0 19), .ref (a_p0 20), .ref (a_p0 21), .int s_p0_level, .ref (a_p0 23), .ref (a_p0 24), .ref (a_p0 25), .ref (a_p0 26), .ref (a_p0 27), .ref (a_p0 28), .ref (a_p0 29), .ref (a_p0 30), .ref (a_p0 31), .ref (a_p0 32)], vI T (a_p0 5) 6 s_p0_kinds, vI T (a_p0 4) 6 s_p0_lineCount, vJ T (a_p0 7) 270 s_p0_lines, vI T (a_p0 3) 6 s_p0_points, vI T (a_p0 31) 48 s_p0_rows, vI T (a_p0 30) 4 s_p0_sizes]
abbrev r_X7_digest (E : vE) (T : Nat → ClassId) (o_p0 : Nat) (a_p0 : Nat → Nat) (s_p0_finding : Int32) (s_p0_asked : Int64) (s_p0_newPoints : Int32) (s_p0_newLines : Int32) (s_p0_faultAt : Int64) (s_p0_tries : Int32) (s_p0_things : Int32) (s_p0_goals : Int32) (s_p0_level : Int32) (s_p0_kinds : Nat → Int32) (s_p0_lineCount : Nat → Int32) (s_p0_lines : Nat → Int64) (s_p0_points : Nat → Int32) (s_p0_rows : Nat → Int32) (s_p0_sizes : Nat → Int32) (Q : Int64 → Prop) : Prop := vRl E cX7_digest (fun v (u : Unit) => Q v) (fun (u : Unit) => (cl_X7_digest T o_p0 a_p0 s_p0_finding s_p0_asked s_p0_newPoints s_p0_newLines s_p0_faultAt s_p0_tries s_p0_things s_p0_goals s_p0_level s_p0_kinds s_p0_lineCount s_p0_lines s_p0_points s_p0_rows s_p0_sizes))
def w_X7_digest_152s (x_3 : Int32) (s_p0_kinds : Nat → Int32) (s_p0_lineCount : Nat → Int32) (s_p0_lines : Nat → Int64) (s_p0_points : Nat → Int32) (s_p0_rows : Nat → Int32) (s_p0_sizes : Nat → Int32) (K_117 : (Int64) → (Int32) → Prop) (Q : Int64 → Prop) (K_152 : (Int64) → (Int32) → Prop) (x_1 : Int64) (x_4 : Int32) : Prop := (vp_in x_3 4 ∧ (((s_p0_sizes (x_3).toNatClampNeg) ≤ x_4 → (K_117 x_1 (x_3 + (1 : Int32)))) ∧ (¬ (s_p0_sizes (x_3).toNatClampNeg) ≤ x_4 → (vp_in (((12 : Int32) * x_3) + x_4) 48 ∧ (∀ (y_182 : Int64), y_182 = (((31 : Int64) * x_1) + ((s_p0_rows ((((12 : Int32) * x_3) + x_4)).toNatClampNeg)).toInt64) → (K_152 y_182 (x_4 + (1 : Int32))))))))
def w_X7_digest_152 (x_3 : Int32) (s_p0_kinds : Nat → Int32) (s_p0_lineCount : Nat → Int32) (s_p0_lines : Nat → Int64) (s_p0_points : Nat → Int32) (s_p0_rows : Nat → Int32) (s_p0_sizes : Nat → Int32) (K_117 : (Int64) → (Int32) → Prop) (Q : Int64 → Prop) : Nat → (Int64) → (Int32) → Prop
  | 0 => fun _ _ => False
  | n_ + 1 => w_X7_digest_152s x_3 s_p0_kinds s_p0_lineCount s_p0_lines s_p0_points s_p0_rows s_p0_sizes K_117 Q (w_X7_digest_152 x_3 s_p0_kinds s_p0_lineCount s_p0_lines s_p0_points s_p0_rows s_p0_sizes K_117 Q n_)
def w_X7_digest_146 (x_3 : Int32) (t_0 : Int64) (t_1 : Int32) (s_p0_kinds : Nat → Int32) (s_p0_lineCount : Nat → Int32) (s_p0_lines : Nat → Int64) (s_p0_points : Nat → Int32) (s_p0_rows : Nat → Int32) (s_p0_sizes : Nat → Int32) (K_117 : (Int64) → (Int32) → Prop) (Q : Int64 → Prop) : Prop := (∃ n_, w_X7_digest_152 x_3 s_p0_kinds s_p0_lineCount s_p0_lines s_p0_points s_p0_rows s_p0_sizes K_117 Q n_ (t_0 + (t_1).toInt64) (0 : Int32))
def w_X7_digest_117s (s_p0_kinds : Nat → Int32) (s_p0_lineCount : Nat → Int32) (s_p0_lines : Nat → Int64) (s_p0_points : Nat → Int32) (s_p0_rows : Nat → Int32) (s_p0_sizes : Nat → Int32) (Q : Int64 → Prop) (K_117 : (Int64) → (Int32) → Prop) (x_1 : Int64) (x_3 : Int32) : Prop := (((4 : Int32) ≤ x_3 → (Q x_1)) ∧ (¬ (4 : Int32) ≤ x_3 → (vp_in x_3 4 ∧ ((0 ≤ (s_p0_sizes (x_3).toNatClampNeg) → (vp_in x_3 4 ∧ (w_X7_digest_146 x_3 ((31 : Int64) * x_1) (s_p0_sizes (x_3).toNatClampNeg) s_p0_kinds s_p0_lineCount s_p0_lines s_p0_points s_p0_rows s_p0_sizes K_117 Q))) ∧ (¬ 0 ≤ (s_p0_sizes (x_3).toNatClampNeg) → (w_X7_digest_146 x_3 ((31 : Int64) * x_1) (-1 : Int32) s_p0_kinds s_p0_lineCount s_p0_lines s_p0_points s_p0_rows s_p0_sizes K_117 Q))))))
def w_X7_digest_117 (s_p0_kinds : Nat → Int32) (s_p0_lineCount : Nat → Int32) (s_p0_lines : Nat → Int64) (s_p0_points : Nat → Int32) (s_p0_rows : Nat → Int32) (s_p0_sizes : Nat → Int32) (Q : Int64 → Prop) : Nat → (Int64) → (Int32) → Prop
  | 0 => fun _ _ => False
  | n_ + 1 => w_X7_digest_117s s_p0_kinds s_p0_lineCount s_p0_lines s_p0_points s_p0_rows s_p0_sizes Q (w_X7_digest_117 s_p0_kinds s_p0_lineCount s_p0_lines s_p0_points s_p0_rows s_p0_sizes Q n_)
def w_X7_digest_109 (x_1 : Int64) (x_3 : Int32) (s_p0_kinds : Nat → Int32) (s_p0_lineCount : Nat → Int32) (s_p0_lines : Nat → Int64) (s_p0_points : Nat → Int32) (s_p0_rows : Nat → Int32) (s_p0_sizes : Nat → Int32) (K_6 : (Int64) → (Int32) → Prop) (Q : Int64 → Prop) : Prop := (K_6 x_1 (x_3 + (1 : Int32)))
def w_X7_digest_73s (x_3 : Int32) (s_p0_kinds : Nat → Int32) (s_p0_lineCount : Nat → Int32) (s_p0_lines : Nat → Int64) (s_p0_points : Nat → Int32) (s_p0_rows : Nat → Int32) (s_p0_sizes : Nat → Int32) (K_6 : (Int64) → (Int32) → Prop) (Q : Int64 → Prop) (K_73 : (Int64) → (Int32) → Prop) (x_1 : Int64) (x_4 : Int32) : Prop := (vp_in x_3 6 ∧ (((s_p0_lineCount (x_3).toNatClampNeg) ≤ x_4 → (w_X7_digest_109 x_1 x_3 s_p0_kinds s_p0_lineCount s_p0_lines s_p0_points s_p0_rows s_p0_sizes K_6 Q)) ∧ (¬ (s_p0_lineCount (x_3).toNatClampNeg) ≤ x_4 → (vp_in (((45 : Int32) * x_3) + x_4) 270 ∧ (K_73 (((31 : Int64) * x_1) + (s_p0_lines ((((45 : Int32) * x_3) + x_4)).toNatClampNeg)) (x_4 + (1 : Int32)))))))
def w_X7_digest_73 (x_3 : Int32) (s_p0_kinds : Nat → Int32) (s_p0_lineCount : Nat → Int32) (s_p0_lines : Nat → Int64) (s_p0_points : Nat → Int32) (s_p0_rows : Nat → Int32) (s_p0_sizes : Nat → Int32) (K_6 : (Int64) → (Int32) → Prop) (Q : Int64 → Prop) : Nat → (Int64) → (Int32) → Prop
  | 0 => fun _ _ => False
  | n_ + 1 => w_X7_digest_73s x_3 s_p0_kinds s_p0_lineCount s_p0_lines s_p0_points s_p0_rows s_p0_sizes K_6 Q (w_X7_digest_73 x_3 s_p0_kinds s_p0_lineCount s_p0_lines s_p0_points s_p0_rows s_p0_sizes K_6 Q n_)
def w_X7_digest_6s (s_p0_kinds : Nat → Int32) (s_p0_lineCount : Nat → Int32) (s_p0_lines : Nat → Int64) (s_p0_points : Nat → Int32) (s_p0_rows : Nat → Int32) (s_p0_sizes : Nat → Int32) (Q : Int64 → Prop) (K_6 : (Int64) → (Int32) → Prop) (x_1 : Int64) (x_3 : Int32) : Prop := (((6 : Int32) ≤ x_3 → (∃ n_, w_X7_digest_117 s_p0_kinds s_p0_lineCount s_p0_lines s_p0_points s_p0_rows s_p0_sizes Q n_ x_1 (0 : Int32))) ∧ (¬ (6 : Int32) ≤ x_3 → (vp_in x_3 6 ∧ ((¬ (s_p0_points (x_3).toNatClampNeg) = 0 → (vp_in x_3 6 ∧ (vp_in x_3 6 ∧ (vp_in x_3 6 ∧ (∀ (y_69 : Int64), y_69 = (((31 : Int64) * (((31 : Int64) * (((31 : Int64) * x_1) + ((s_p0_points (x_3).toNatClampNeg)).toInt64)) + ((s_p0_lineCount (x_3).toNatClampNeg)).toInt64)) + ((s_p0_kinds (x_3).toNatClampNeg)).toInt64) → (∃ n_, w_X7_digest_73 x_3 s_p0_kinds s_p0_lineCount s_p0_lines s_p0_points s_p0_rows s_p0_sizes K_6 Q n_ y_69 (0 : Int32))))))) ∧ ((s_p0_points (x_3).toNatClampNeg) = 0 → (w_X7_digest_109 (((31 : Int64) * x_1) - (1 : Int64)) x_3 s_p0_kinds s_p0_lineCount s_p0_lines s_p0_points s_p0_rows s_p0_sizes K_6 Q))))))
def w_X7_digest_6 (s_p0_kinds : Nat → Int32) (s_p0_lineCount : Nat → Int32) (s_p0_lines : Nat → Int64) (s_p0_points : Nat → Int32) (s_p0_rows : Nat → Int32) (s_p0_sizes : Nat → Int32) (Q : Int64 → Prop) : Nat → (Int64) → (Int32) → Prop
  | 0 => fun _ _ => False
  | n_ + 1 => w_X7_digest_6s s_p0_kinds s_p0_lineCount s_p0_lines s_p0_points s_p0_rows s_p0_sizes Q (w_X7_digest_6 s_p0_kinds s_p0_lineCount s_p0_lines s_p0_points s_p0_rows s_p0_sizes Q n_)
def w_X7_digest (s_p0_kinds : Nat → Int32) (s_p0_lineCount : Nat → Int32) (s_p0_lines : Nat → Int64) (s_p0_points : Nat → Int32) (s_p0_rows : Nat → Int32) (s_p0_sizes : Nat → Int32) (Q : Int64 → Prop) : Prop := (∃ n_, w_X7_digest_6 s_p0_kinds s_p0_lineCount s_p0_lines s_p0_points s_p0_rows s_p0_sizes Q n_ (17 : Int64) (0 : Int32))
-- X7_digest
theorem iX7_digest_X7 : ∀ w ∈ wsX70, w ∈ wsX7_digest := by decide +kernel
set_option maxHeartbeats 4000000 in
set_option maxRecDepth 100000 in
theorem k_X7_digest_152 {E : vE} {T : Nat → ClassId} {o_p0 : Nat} {a_p0 : Nat → Nat} {s_p0_finding : Int32} {s_p0_asked : Int64} {s_p0_newPoints : Int32} {s_p0_newLines : Int32} {s_p0_faultAt : Int64} {s_p0_tries : Int32} {s_p0_things : Int32} {s_p0_goals : Int32} {s_p0_level : Int32} {s_p0_kinds : Nat → Int32} {s_p0_lineCount : Nat → Int32} {s_p0_lines : Nat → Int64} {s_p0_points : Nat → Int32} {s_p0_rows : Nat → Int32} {s_p0_sizes : Nat → Int32} {x_3 : Int32} {K_117 : (Int64) → (Int32) → Prop} {Q : Int64 → Prop} (X : vX E cX7_digest 5 RX7 wsX7_digest (vT T) (vr 0 0)) (r : r_X7_digest E T o_p0 a_p0 s_p0_finding s_p0_asked s_p0_newPoints s_p0_newLines s_p0_faultAt s_p0_tries s_p0_things s_p0_goals s_p0_level s_p0_kinds s_p0_lineCount s_p0_lines s_p0_points s_p0_rows s_p0_sizes Q) (hK_117 : ∀ (x_1' : Int64) (x_3' : Int32), K_117 x_1' x_3' → V E 0 0 117 [(0, .ref o_p0), (1, .long x_1'), (3, .int x_3')] [] (cl_X7_digest T o_p0 a_p0 s_p0_finding s_p0_asked s_p0_newPoints s_p0_newLines s_p0_faultAt s_p0_tries s_p0_things s_p0_goals s_p0_level s_p0_kinds s_p0_lineCount s_p0_lines s_p0_points s_p0_rows s_p0_sizes)) : ∀ (n_ : Nat) (x_1 : Int64) (x_4 : Int32), w_X7_digest_152 x_3 s_p0_kinds s_p0_lineCount s_p0_lines s_p0_points s_p0_rows s_p0_sizes K_117 Q n_ x_1 x_4 → V E 0 0 152 [(0, .ref o_p0), (1, .long x_1), (3, .int x_3), (4, .int x_4)] [] (cl_X7_digest T o_p0 a_p0 s_p0_finding s_p0_asked s_p0_newPoints s_p0_newLines s_p0_faultAt s_p0_tries s_p0_things s_p0_goals s_p0_level s_p0_kinds s_p0_lineCount s_p0_lines s_p0_points s_p0_rows s_p0_sizes) := by
  intro n_
  induction n_ with
  | zero => intro x_1 x_4 h; exact h.elim
  | succ n_ hK_152 =>
    intro x_1 x_4 h
    replace h : w_X7_digest_152s x_3 s_p0_kinds s_p0_lineCount s_p0_lines s_p0_points s_p0_rows s_p0_sizes K_117 Q (w_X7_digest_152 x_3 s_p0_kinds s_p0_lineCount s_p0_lines s_p0_points s_p0_rows s_p0_sizes K_117 Q n_) x_1 x_4 := h
    unfold w_X7_digest_152s at h
    refine v_iload X 3 dX7_digest_152 rfl ?_
    refine v_aload_n X 0 dX7_digest_154 rfl rfl ?_
    refine v_get X 0 30 (F := TX7) (N := 33) iX7_digest_X7 rfl rfl (by decide) (List.mem_of_getElem? (i := 7) rfl) rfl rfl dX7_digest_155 ?_
    refine v_iload_n X 2 dX7_digest_158 rfl rfl ?_
    refine v_iald X 6 0 rfl rfl h.1 dX7_digest_159 ?_
    replace h := h.2
    refine v_icmp_ge X (tgt := 189) dX7_digest_160 (by decide) (fun c_160 => ?_) (fun c_160 => ?_)
    · replace h := h.1 c_160
      refine v_iinc X (v := (x_3 + (1 : Int32))) (lv' := [(3, .int (x_3 + (1 : Int32))), (0, .ref o_p0), (1, .long x_1), (4, .int x_4)]) 2 dX7_digest_189 rfl rfl (by decide) rfl ?_
      refine v_goto X (tgt := 117) dX7_digest_192 (by decide) ?_
      refine v_lv (lv' := [(0, .ref o_p0), (1, .long x_1), (3, .int (x_3 + (1 : Int32)))]) [1, 2, 0] rfl ?_
      exact hK_117 _ _ h
    · replace h := h.2 c_160
      refine v_ldc2 X (v := (31 : Int64)) (List.mem_of_getElem? (i := 3) rfl) dX7_digest_163 ?_
      refine v_lload_n X 1 dX7_digest_166 rfl rfl ?_
      refine v_lmul X dX7_digest_167 ?_
      refine v_aload_n X 0 dX7_digest_168 rfl rfl ?_
      refine v_get X 0 31 (F := TX7) (N := 33) iX7_digest_X7 rfl rfl (by decide) (List.mem_of_getElem? (i := 8) rfl) rfl rfl dX7_digest_169 ?_
      refine v_bipush X dX7_digest_172 (v := (12 : Int32)) (by decide) ?_
      refine v_iload_n X 2 dX7_digest_174 rfl rfl ?_
      refine v_imul X dX7_digest_175 ?_
      refine v_iload X 3 dX7_digest_176 rfl ?_
      refine v_iadd X dX7_digest_178 ?_
      refine v_iald X 5 0 rfl rfl h.1 dX7_digest_179 ?_
      replace h := h.2
      refine v_i2l X dX7_digest_180 ?_
      refine v_ladd X dX7_digest_181 ?_
      refine v_topl (fun y_182 e_182 => ?_)
      replace h := h y_182 e_182
      refine v_lstore_n X (lv' := [(1, .long y_182), (0, .ref o_p0), (3, .int x_3), (4, .int x_4)]) dX7_digest_182 rfl (by decide) rfl ?_
      refine v_iinc X (v := (x_4 + (1 : Int32))) (lv' := [(4, .int (x_4 + (1 : Int32))), (1, .long y_182), (0, .ref o_p0), (3, .int x_3)]) 3 dX7_digest_183 rfl rfl (by decide) rfl ?_
      refine v_goto X (tgt := 152) dX7_digest_186 (by decide) ?_
      refine v_lv (lv' := [(0, .ref o_p0), (1, .long y_182), (3, .int x_3), (4, .int (x_4 + (1 : Int32)))]) [2, 1, 3, 0] rfl ?_
      exact hK_152 _ _ h
set_option maxHeartbeats 4000000 in
set_option maxRecDepth 100000 in
theorem k_X7_digest_146 {E : vE} {T : Nat → ClassId} {o_p0 : Nat} {a_p0 : Nat → Nat} {s_p0_finding : Int32} {s_p0_asked : Int64} {s_p0_newPoints : Int32} {s_p0_newLines : Int32} {s_p0_faultAt : Int64} {s_p0_tries : Int32} {s_p0_things : Int32} {s_p0_goals : Int32} {s_p0_level : Int32} {s_p0_kinds : Nat → Int32} {s_p0_lineCount : Nat → Int32} {s_p0_lines : Nat → Int64} {s_p0_points : Nat → Int32} {s_p0_rows : Nat → Int32} {s_p0_sizes : Nat → Int32} {x_3 : Int32} {t_0 : Int64} {t_1 : Int32} {K_117 : (Int64) → (Int32) → Prop} {Q : Int64 → Prop} (X : vX E cX7_digest 5 RX7 wsX7_digest (vT T) (vr 0 0)) (r : r_X7_digest E T o_p0 a_p0 s_p0_finding s_p0_asked s_p0_newPoints s_p0_newLines s_p0_faultAt s_p0_tries s_p0_things s_p0_goals s_p0_level s_p0_kinds s_p0_lineCount s_p0_lines s_p0_points s_p0_rows s_p0_sizes Q) (hK_117 : ∀ (x_1' : Int64) (x_3' : Int32), K_117 x_1' x_3' → V E 0 0 117 [(0, .ref o_p0), (1, .long x_1'), (3, .int x_3')] [] (cl_X7_digest T o_p0 a_p0 s_p0_finding s_p0_asked s_p0_newPoints s_p0_newLines s_p0_faultAt s_p0_tries s_p0_things s_p0_goals s_p0_level s_p0_kinds s_p0_lineCount s_p0_lines s_p0_points s_p0_rows s_p0_sizes)) (h : w_X7_digest_146 x_3 t_0 t_1 s_p0_kinds s_p0_lineCount s_p0_lines s_p0_points s_p0_rows s_p0_sizes K_117 Q) : V E 0 0 146 [(0, .ref o_p0), (3, .int x_3)] [.int t_1, .long t_0] (cl_X7_digest T o_p0 a_p0 s_p0_finding s_p0_asked s_p0_newPoints s_p0_newLines s_p0_faultAt s_p0_tries s_p0_things s_p0_goals s_p0_level s_p0_kinds s_p0_lineCount s_p0_lines s_p0_points s_p0_rows s_p0_sizes) := by
  unfold w_X7_digest_146 at h
  refine v_i2l X dX7_digest_146 ?_
  refine v_ladd X dX7_digest_147 ?_
  refine v_lstore_n X (lv' := [(1, .long (t_0 + (t_1).toInt64)), (0, .ref o_p0), (3, .int x_3)]) dX7_digest_148 rfl (by decide) rfl ?_
  refine v_iconst X dX7_digest_149 (v := (0 : Int32)) (by decide) ?_
  refine v_istore X (lv' := [(4, .int (0 : Int32)), (1, .long (t_0 + (t_1).toInt64)), (0, .ref o_p0), (3, .int x_3)]) dX7_digest_150 (by decide) rfl ?_
  refine v_lv (lv' := [(0, .ref o_p0), (1, .long (t_0 + (t_1).toInt64)), (3, .int x_3), (4, .int (0 : Int32))]) [2, 1, 3, 0] rfl ?_
  obtain ⟨n_, h⟩ := h
  exact k_X7_digest_152 X r hK_117 n_ _ _ h
set_option maxHeartbeats 4000000 in
set_option maxRecDepth 100000 in
theorem k_X7_digest_117 {E : vE} {T : Nat → ClassId} {o_p0 : Nat} {a_p0 : Nat → Nat} {s_p0_finding : Int32} {s_p0_asked : Int64} {s_p0_newPoints : Int32} {s_p0_newLines : Int32} {s_p0_faultAt : Int64} {s_p0_tries : Int32} {s_p0_things : Int32} {s_p0_goals : Int32} {s_p0_level : Int32} {s_p0_kinds : Nat → Int32} {s_p0_lineCount : Nat → Int32} {s_p0_lines : Nat → Int64} {s_p0_points : Nat → Int32} {s_p0_rows : Nat → Int32} {s_p0_sizes : Nat → Int32} {Q : Int64 → Prop} (X : vX E cX7_digest 5 RX7 wsX7_digest (vT T) (vr 0 0)) (r : r_X7_digest E T o_p0 a_p0 s_p0_finding s_p0_asked s_p0_newPoints s_p0_newLines s_p0_faultAt s_p0_tries s_p0_things s_p0_goals s_p0_level s_p0_kinds s_p0_lineCount s_p0_lines s_p0_points s_p0_rows s_p0_sizes Q) : ∀ (n_ : Nat) (x_1 : Int64) (x_3 : Int32), w_X7_digest_117 s_p0_kinds s_p0_lineCount s_p0_lines s_p0_points s_p0_rows s_p0_sizes Q n_ x_1 x_3 → V E 0 0 117 [(0, .ref o_p0), (1, .long x_1), (3, .int x_3)] [] (cl_X7_digest T o_p0 a_p0 s_p0_finding s_p0_asked s_p0_newPoints s_p0_newLines s_p0_faultAt s_p0_tries s_p0_things s_p0_goals s_p0_level s_p0_kinds s_p0_lineCount s_p0_lines s_p0_points s_p0_rows s_p0_sizes) := by
  intro n_
  induction n_ with
  | zero => intro x_1 x_3 h; exact h.elim
  | succ n_ hK_117 =>
    intro x_1 x_3 h
    replace h : w_X7_digest_117s s_p0_kinds s_p0_lineCount s_p0_lines s_p0_points s_p0_rows s_p0_sizes Q (w_X7_digest_117 s_p0_kinds s_p0_lineCount s_p0_lines s_p0_points s_p0_rows s_p0_sizes Q n_) x_1 x_3 := h
    unfold w_X7_digest_117s at h
    refine v_iload_n X 2 dX7_digest_117 rfl rfl ?_
    refine v_iconst X dX7_digest_118 (v := (4 : Int32)) (by decide) ?_
    refine v_icmp_ge X (tgt := 195) dX7_digest_119 (by decide) (fun c_119 => ?_) (fun c_119 => ?_)
    · replace h := h.1 c_119
      refine v_lload_n X 1 dX7_digest_195 rfl rfl ?_
      exact r _ _ _ () _ dX7_digest_196 h rfl
    · replace h := h.2 c_119
      refine v_ldc2 X (v := (31 : Int64)) (List.mem_of_getElem? (i := 3) rfl) dX7_digest_122 ?_
      refine v_lload_n X 1 dX7_digest_125 rfl rfl ?_
      refine v_lmul X dX7_digest_126 ?_
      refine v_aload_n X 0 dX7_digest_127 rfl rfl ?_
      refine v_get X 0 30 (F := TX7) (N := 33) iX7_digest_X7 rfl rfl (by decide) (List.mem_of_getElem? (i := 7) rfl) rfl rfl dX7_digest_128 ?_
      refine v_iload_n X 2 dX7_digest_131 rfl rfl ?_
      refine v_iald X 6 0 rfl rfl h.1 dX7_digest_132 ?_
      replace h := h.2
      refine v_if_ge X (tgt := 140) dX7_digest_133 (by decide) (fun c_133 => ?_) (fun c_133 => ?_)
      · replace h := h.1 c_133
        refine v_aload_n X 0 dX7_digest_140 rfl rfl ?_
        refine v_get X 0 30 (F := TX7) (N := 33) iX7_digest_X7 rfl rfl (by decide) (List.mem_of_getElem? (i := 7) rfl) rfl rfl dX7_digest_141 ?_
        refine v_iload_n X 2 dX7_digest_144 rfl rfl ?_
        refine v_iald X 6 0 rfl rfl h.1 dX7_digest_145 ?_
        replace h := h.2
        refine v_lv (lv' := [(0, .ref o_p0), (3, .int x_3)]) [0, 2] rfl ?_
        exact k_X7_digest_146 X r hK_117 h
      · replace h := h.2 c_133
        refine v_iconst X dX7_digest_136 (v := (-1 : Int32)) (by decide) ?_
        refine v_goto X (tgt := 146) dX7_digest_137 (by decide) ?_
        refine v_lv (lv' := [(0, .ref o_p0), (3, .int x_3)]) [0, 2] rfl ?_
        exact k_X7_digest_146 X r hK_117 h
set_option maxHeartbeats 4000000 in
set_option maxRecDepth 100000 in
theorem k_X7_digest_109 {E : vE} {T : Nat → ClassId} {o_p0 : Nat} {a_p0 : Nat → Nat} {s_p0_finding : Int32} {s_p0_asked : Int64} {s_p0_newPoints : Int32} {s_p0_newLines : Int32} {s_p0_faultAt : Int64} {s_p0_tries : Int32} {s_p0_things : Int32} {s_p0_goals : Int32} {s_p0_level : Int32} {s_p0_kinds : Nat → Int32} {s_p0_lineCount : Nat → Int32} {s_p0_lines : Nat → Int64} {s_p0_points : Nat → Int32} {s_p0_rows : Nat → Int32} {s_p0_sizes : Nat → Int32} {x_1 : Int64} {x_3 : Int32} {K_6 : (Int64) → (Int32) → Prop} {Q : Int64 → Prop} (X : vX E cX7_digest 5 RX7 wsX7_digest (vT T) (vr 0 0)) (r : r_X7_digest E T o_p0 a_p0 s_p0_finding s_p0_asked s_p0_newPoints s_p0_newLines s_p0_faultAt s_p0_tries s_p0_things s_p0_goals s_p0_level s_p0_kinds s_p0_lineCount s_p0_lines s_p0_points s_p0_rows s_p0_sizes Q) (hK_6 : ∀ (x_1' : Int64) (x_3' : Int32), K_6 x_1' x_3' → V E 0 0 6 [(0, .ref o_p0), (1, .long x_1'), (3, .int x_3')] [] (cl_X7_digest T o_p0 a_p0 s_p0_finding s_p0_asked s_p0_newPoints s_p0_newLines s_p0_faultAt s_p0_tries s_p0_things s_p0_goals s_p0_level s_p0_kinds s_p0_lineCount s_p0_lines s_p0_points s_p0_rows s_p0_sizes)) (h : w_X7_digest_109 x_1 x_3 s_p0_kinds s_p0_lineCount s_p0_lines s_p0_points s_p0_rows s_p0_sizes K_6 Q) : V E 0 0 109 [(0, .ref o_p0), (1, .long x_1), (3, .int x_3)] [] (cl_X7_digest T o_p0 a_p0 s_p0_finding s_p0_asked s_p0_newPoints s_p0_newLines s_p0_faultAt s_p0_tries s_p0_things s_p0_goals s_p0_level s_p0_kinds s_p0_lineCount s_p0_lines s_p0_points s_p0_rows s_p0_sizes) := by
  unfold w_X7_digest_109 at h
  refine v_iinc X (v := (x_3 + (1 : Int32))) (lv' := [(3, .int (x_3 + (1 : Int32))), (0, .ref o_p0), (1, .long x_1)]) 2 dX7_digest_109 rfl rfl (by decide) rfl ?_
  refine v_goto X (tgt := 6) dX7_digest_112 (by decide) ?_
  refine v_lv (lv' := [(0, .ref o_p0), (1, .long x_1), (3, .int (x_3 + (1 : Int32)))]) [1, 2, 0] rfl ?_
  exact hK_6 _ _ h
set_option maxHeartbeats 4000000 in
set_option maxRecDepth 100000 in
theorem k_X7_digest_73 {E : vE} {T : Nat → ClassId} {o_p0 : Nat} {a_p0 : Nat → Nat} {s_p0_finding : Int32} {s_p0_asked : Int64} {s_p0_newPoints : Int32} {s_p0_newLines : Int32} {s_p0_faultAt : Int64} {s_p0_tries : Int32} {s_p0_things : Int32} {s_p0_goals : Int32} {s_p0_level : Int32} {s_p0_kinds : Nat → Int32} {s_p0_lineCount : Nat → Int32} {s_p0_lines : Nat → Int64} {s_p0_points : Nat → Int32} {s_p0_rows : Nat → Int32} {s_p0_sizes : Nat → Int32} {x_3 : Int32} {K_6 : (Int64) → (Int32) → Prop} {Q : Int64 → Prop} (X : vX E cX7_digest 5 RX7 wsX7_digest (vT T) (vr 0 0)) (r : r_X7_digest E T o_p0 a_p0 s_p0_finding s_p0_asked s_p0_newPoints s_p0_newLines s_p0_faultAt s_p0_tries s_p0_things s_p0_goals s_p0_level s_p0_kinds s_p0_lineCount s_p0_lines s_p0_points s_p0_rows s_p0_sizes Q) (hK_6 : ∀ (x_1' : Int64) (x_3' : Int32), K_6 x_1' x_3' → V E 0 0 6 [(0, .ref o_p0), (1, .long x_1'), (3, .int x_3')] [] (cl_X7_digest T o_p0 a_p0 s_p0_finding s_p0_asked s_p0_newPoints s_p0_newLines s_p0_faultAt s_p0_tries s_p0_things s_p0_goals s_p0_level s_p0_kinds s_p0_lineCount s_p0_lines s_p0_points s_p0_rows s_p0_sizes)) : ∀ (n_ : Nat) (x_1 : Int64) (x_4 : Int32), w_X7_digest_73 x_3 s_p0_kinds s_p0_lineCount s_p0_lines s_p0_points s_p0_rows s_p0_sizes K_6 Q n_ x_1 x_4 → V E 0 0 73 [(0, .ref o_p0), (1, .long x_1), (3, .int x_3), (4, .int x_4)] [] (cl_X7_digest T o_p0 a_p0 s_p0_finding s_p0_asked s_p0_newPoints s_p0_newLines s_p0_faultAt s_p0_tries s_p0_things s_p0_goals s_p0_level s_p0_kinds s_p0_lineCount s_p0_lines s_p0_points s_p0_rows s_p0_sizes) := by
  intro n_
  induction n_ with
  | zero => intro x_1 x_4 h; exact h.elim
  | succ n_ hK_73 =>
    intro x_1 x_4 h
    replace h : w_X7_digest_73s x_3 s_p0_kinds s_p0_lineCount s_p0_lines s_p0_points s_p0_rows s_p0_sizes K_6 Q (w_X7_digest_73 x_3 s_p0_kinds s_p0_lineCount s_p0_lines s_p0_points s_p0_rows s_p0_sizes K_6 Q n_) x_1 x_4 := h
    unfold w_X7_digest_73s at h
    refine v_iload X 3 dX7_digest_73 rfl ?_
    refine v_aload_n X 0 dX7_digest_75 rfl rfl ?_
    refine v_get X 0 4 (F := TX7) (N := 33) iX7_digest_X7 rfl rfl (by decide) (List.mem_of_getElem? (i := 4) rfl) rfl rfl dX7_digest_76 ?_
    refine v_iload_n X 2 dX7_digest_79 rfl rfl ?_
    refine v_iald X 2 0 rfl rfl h.1 dX7_digest_80 ?_
    replace h := h.2
    refine v_icmp_ge X (tgt := 109) dX7_digest_81 (by decide) (fun c_81 => ?_) (fun c_81 => ?_)
    · replace h := h.1 c_81
      refine v_lv (lv' := [(0, .ref o_p0), (1, .long x_1), (3, .int x_3)]) [0, 1, 2] rfl ?_
      exact k_X7_digest_109 X r hK_6 h
    · replace h := h.2 c_81
      refine v_ldc2 X (v := (31 : Int64)) (List.mem_of_getElem? (i := 3) rfl) dX7_digest_84 ?_
      refine v_lload_n X 1 dX7_digest_87 rfl rfl ?_
      refine v_lmul X dX7_digest_88 ?_
      refine v_aload_n X 0 dX7_digest_89 rfl rfl ?_
      refine v_get X 0 7 (F := TX7) (N := 33) iX7_digest_X7 rfl rfl (by decide) (List.mem_of_getElem? (i := 6) rfl) rfl rfl dX7_digest_90 ?_
      refine v_bipush X dX7_digest_93 (v := (45 : Int32)) (by decide) ?_
      refine v_iload_n X 2 dX7_digest_95 rfl rfl ?_
      refine v_imul X dX7_digest_96 ?_
      refine v_iload X 3 dX7_digest_97 rfl ?_
      refine v_iadd X dX7_digest_99 ?_
      refine v_lald X 3 1 rfl rfl h.1 dX7_digest_100 ?_
      replace h := h.2
      refine v_ladd X dX7_digest_101 ?_
      refine v_lstore_n X (lv' := [(1, .long (((31 : Int64) * x_1) + (s_p0_lines ((((45 : Int32) * x_3) + x_4)).toNatClampNeg))), (0, .ref o_p0), (3, .int x_3), (4, .int x_4)]) dX7_digest_102 rfl (by decide) rfl ?_
      refine v_iinc X (v := (x_4 + (1 : Int32))) (lv' := [(4, .int (x_4 + (1 : Int32))), (1, .long (((31 : Int64) * x_1) + (s_p0_lines ((((45 : Int32) * x_3) + x_4)).toNatClampNeg))), (0, .ref o_p0), (3, .int x_3)]) 3 dX7_digest_103 rfl rfl (by decide) rfl ?_
      refine v_goto X (tgt := 73) dX7_digest_106 (by decide) ?_
      refine v_lv (lv' := [(0, .ref o_p0), (1, .long (((31 : Int64) * x_1) + (s_p0_lines ((((45 : Int32) * x_3) + x_4)).toNatClampNeg))), (3, .int x_3), (4, .int (x_4 + (1 : Int32)))]) [2, 1, 3, 0] rfl ?_
      exact hK_73 _ _ h
set_option maxHeartbeats 4000000 in
set_option maxRecDepth 100000 in
theorem k_X7_digest_6 {E : vE} {T : Nat → ClassId} {o_p0 : Nat} {a_p0 : Nat → Nat} {s_p0_finding : Int32} {s_p0_asked : Int64} {s_p0_newPoints : Int32} {s_p0_newLines : Int32} {s_p0_faultAt : Int64} {s_p0_tries : Int32} {s_p0_things : Int32} {s_p0_goals : Int32} {s_p0_level : Int32} {s_p0_kinds : Nat → Int32} {s_p0_lineCount : Nat → Int32} {s_p0_lines : Nat → Int64} {s_p0_points : Nat → Int32} {s_p0_rows : Nat → Int32} {s_p0_sizes : Nat → Int32} {Q : Int64 → Prop} (X : vX E cX7_digest 5 RX7 wsX7_digest (vT T) (vr 0 0)) (r : r_X7_digest E T o_p0 a_p0 s_p0_finding s_p0_asked s_p0_newPoints s_p0_newLines s_p0_faultAt s_p0_tries s_p0_things s_p0_goals s_p0_level s_p0_kinds s_p0_lineCount s_p0_lines s_p0_points s_p0_rows s_p0_sizes Q) : ∀ (n_ : Nat) (x_1 : Int64) (x_3 : Int32), w_X7_digest_6 s_p0_kinds s_p0_lineCount s_p0_lines s_p0_points s_p0_rows s_p0_sizes Q n_ x_1 x_3 → V E 0 0 6 [(0, .ref o_p0), (1, .long x_1), (3, .int x_3)] [] (cl_X7_digest T o_p0 a_p0 s_p0_finding s_p0_asked s_p0_newPoints s_p0_newLines s_p0_faultAt s_p0_tries s_p0_things s_p0_goals s_p0_level s_p0_kinds s_p0_lineCount s_p0_lines s_p0_points s_p0_rows s_p0_sizes) := by
  intro n_
  induction n_ with
  | zero => intro x_1 x_3 h; exact h.elim
  | succ n_ hK_6 =>
    intro x_1 x_3 h
    replace h : w_X7_digest_6s s_p0_kinds s_p0_lineCount s_p0_lines s_p0_points s_p0_rows s_p0_sizes Q (w_X7_digest_6 s_p0_kinds s_p0_lineCount s_p0_lines s_p0_points s_p0_rows s_p0_sizes Q n_) x_1 x_3 := h
    unfold w_X7_digest_6s at h
    refine v_iload_n X 2 dX7_digest_6 rfl rfl ?_
    refine v_bipush X dX7_digest_7 (v := (6 : Int32)) (by decide) ?_
    refine v_icmp_ge X (tgt := 115) dX7_digest_9 (by decide) (fun c_9 => ?_) (fun c_9 => ?_)
    · replace h := h.1 c_9
      refine v_iconst X dX7_digest_115 (v := (0 : Int32)) (by decide) ?_
      refine v_istore_n X (lv' := [(3, .int (0 : Int32)), (0, .ref o_p0), (1, .long x_1)]) dX7_digest_116 rfl (by decide) rfl ?_
      refine v_lv (lv' := [(0, .ref o_p0), (1, .long x_1), (3, .int (0 : Int32))]) [1, 2, 0] rfl ?_
      obtain ⟨n_, h⟩ := h
      exact k_X7_digest_117 X r n_ _ _ h
    · replace h := h.2 c_9
      refine v_aload_n X 0 dX7_digest_12 rfl rfl ?_
      refine v_get X 0 3 (F := TX7) (N := 33) iX7_digest_X7 rfl rfl (by decide) (List.mem_of_getElem? (i := 2) rfl) rfl rfl dX7_digest_13 ?_
      refine v_iload_n X 2 dX7_digest_16 rfl rfl ?_
      refine v_iald X 4 0 rfl rfl h.1 dX7_digest_17 ?_
      replace h := h.2
      refine v_if_ne X (tgt := 32) dX7_digest_18 (by decide) (fun c_18 => ?_) (fun c_18 => ?_)
      · replace h := h.1 c_18
        refine v_ldc2 X (v := (31 : Int64)) (List.mem_of_getElem? (i := 3) rfl) dX7_digest_32 ?_
        refine v_ldc2 X (v := (31 : Int64)) (List.mem_of_getElem? (i := 3) rfl) dX7_digest_35 ?_
        refine v_ldc2 X (v := (31 : Int64)) (List.mem_of_getElem? (i := 3) rfl) dX7_digest_38 ?_
        refine v_lload_n X 1 dX7_digest_41 rfl rfl ?_
        refine v_lmul X dX7_digest_42 ?_
        refine v_aload_n X 0 dX7_digest_43 rfl rfl ?_
        refine v_get X 0 3 (F := TX7) (N := 33) iX7_digest_X7 rfl rfl (by decide) (List.mem_of_getElem? (i := 2) rfl) rfl rfl dX7_digest_44 ?_
        refine v_iload_n X 2 dX7_digest_47 rfl rfl ?_
        refine v_iald X 4 0 rfl rfl h.1 dX7_digest_48 ?_
        replace h := h.2
        refine v_i2l X dX7_digest_49 ?_
        refine v_ladd X dX7_digest_50 ?_
        refine v_lmul X dX7_digest_51 ?_
        refine v_aload_n X 0 dX7_digest_52 rfl rfl ?_
        refine v_get X 0 4 (F := TX7) (N := 33) iX7_digest_X7 rfl rfl (by decide) (List.mem_of_getElem? (i := 4) rfl) rfl rfl dX7_digest_53 ?_
        refine v_iload_n X 2 dX7_digest_56 rfl rfl ?_
        refine v_iald X 2 0 rfl rfl h.1 dX7_digest_57 ?_
        replace h := h.2
        refine v_i2l X dX7_digest_58 ?_
        refine v_ladd X dX7_digest_59 ?_
        refine v_lmul X dX7_digest_60 ?_
        refine v_aload_n X 0 dX7_digest_61 rfl rfl ?_
        refine v_get X 0 5 (F := TX7) (N := 33) iX7_digest_X7 rfl rfl (by decide) (List.mem_of_getElem? (i := 5) rfl) rfl rfl dX7_digest_62 ?_
        refine v_iload_n X 2 dX7_digest_65 rfl rfl ?_
        refine v_iald X 1 0 rfl rfl h.1 dX7_digest_66 ?_
        replace h := h.2
        refine v_i2l X dX7_digest_67 ?_
        refine v_ladd X dX7_digest_68 ?_
        refine v_topl (fun y_69 e_69 => ?_)
        replace h := h y_69 e_69
        refine v_lstore_n X (lv' := [(1, .long y_69), (0, .ref o_p0), (3, .int x_3)]) dX7_digest_69 rfl (by decide) rfl ?_
        refine v_iconst X dX7_digest_70 (v := (0 : Int32)) (by decide) ?_
        refine v_istore X (lv' := [(4, .int (0 : Int32)), (1, .long y_69), (0, .ref o_p0), (3, .int x_3)]) dX7_digest_71 (by decide) rfl ?_
        refine v_lv (lv' := [(0, .ref o_p0), (1, .long y_69), (3, .int x_3), (4, .int (0 : Int32))]) [2, 1, 3, 0] rfl ?_
        obtain ⟨n_, h⟩ := h
        exact k_X7_digest_73 X r hK_6 n_ _ _ h
      · replace h := h.2 c_18
        refine v_ldc2 X (v := (31 : Int64)) (List.mem_of_getElem? (i := 3) rfl) dX7_digest_21 ?_
        refine v_lload_n X 1 dX7_digest_24 rfl rfl ?_
        refine v_lmul X dX7_digest_25 ?_
        refine v_lconst X dX7_digest_26 (v := (1 : Int64)) (by decide) ?_
        refine v_lsub X dX7_digest_27 ?_
        refine v_lstore_n X (lv' := [(1, .long (((31 : Int64) * x_1) - (1 : Int64))), (0, .ref o_p0), (3, .int x_3)]) dX7_digest_28 rfl (by decide) rfl ?_
        refine v_goto X (tgt := 109) dX7_digest_29 (by decide) ?_
        refine v_lv (lv' := [(0, .ref o_p0), (1, .long (((31 : Int64) * x_1) - (1 : Int64))), (3, .int x_3)]) [1, 0, 2] rfl ?_
        exact k_X7_digest_109 X r hK_6 h
set_option maxHeartbeats 4000000 in
set_option maxRecDepth 100000 in
theorem c_X7_digest {l : Launch} {D : va_G} {T : Nat → ClassId} {o_p0 : Nat} {a_p0 : Nat → Nat} {s_p0_finding : Int32} {s_p0_asked : Int64} {s_p0_newPoints : Int32} {s_p0_newLines : Int32} {s_p0_faultAt : Int64} {s_p0_tries : Int32} {s_p0_things : Int32} {s_p0_goals : Int32} {s_p0_level : Int32} {s_p0_kinds : Nat → Int32} {s_p0_lineCount : Nat → Int32} {s_p0_lines : Nat → Int64} {s_p0_points : Nat → Int32} {s_p0_rows : Nat → Int32} {s_p0_sizes : Nat → Int32} {Q : Int64 → Prop} (h : w_X7_digest s_p0_kinds s_p0_lineCount s_p0_lines s_p0_points s_p0_rows s_p0_sizes Q) : vCl l D (vT T) yX7_digest wsX7_digest (vr 0 0) [.ref o_p0] (cl_X7_digest T o_p0 a_p0 s_p0_finding s_p0_asked s_p0_newPoints s_p0_newLines s_p0_faultAt s_p0_tries s_p0_things s_p0_goals s_p0_level s_p0_kinds s_p0_lineCount s_p0_lines s_p0_points s_p0_rows s_p0_sizes) (fun v (u : Unit) => Q v) (fun (u : Unit) => (cl_X7_digest T o_p0 a_p0 s_p0_finding s_p0_asked s_p0_newPoints s_p0_newLines s_p0_faultAt s_p0_tries s_p0_things s_p0_goals s_p0_level s_p0_kinds s_p0_lineCount s_p0_lines s_p0_points s_p0_rows s_p0_sizes)) := by
  refine vC_l (cc := cX7_digest) (nL := 5) (by decide +kernel) rfl ⟨rfl, rfl⟩ (Nat.le_of_ble_eq_true rfl) rfl ?_
  intro E el eD X r
  unfold w_X7_digest at h
  refine v_ldc2 X (v := (17 : Int64)) (List.mem_of_getElem? (i := 1) rfl) dX7_digest_0 ?_
  refine v_lstore_n X (lv' := [(1, .long (17 : Int64)), (0, .ref o_p0)]) dX7_digest_3 rfl (by decide) rfl ?_
  refine v_iconst X dX7_digest_4 (v := (0 : Int32)) (by decide) ?_
  refine v_istore_n X (lv' := [(3, .int (0 : Int32)), (1, .long (17 : Int64)), (0, .ref o_p0)]) dX7_digest_5 rfl (by decide) rfl ?_
  refine v_lv (lv' := [(0, .ref o_p0), (1, .long (17 : Int64)), (3, .int (0 : Int32))]) [2, 1, 0] rfl ?_
  obtain ⟨n_, h⟩ := h
  exact k_X7_digest_6 X r n_ _ _ h