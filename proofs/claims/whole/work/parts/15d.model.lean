-- X7_tries
abbrev cl_X7_tries (T : Nat → ClassId) (o_p0 : Nat) (a_p0 : Nat → Nat) (s_p0_finding : Int32) (s_p0_asked : Int64) (s_p0_newPoints : Int32) (s_p0_newLines : Int32) (s_p0_faultAt : Int64) (s_p0_tries : Int32) (s_p0_things : Int32) (s_p0_goals : Int32) (s_p0_level : Int32) : va_W := [vO o_p0 4 [.int s_p0_finding, .ref (a_p0 1), .long s_p0_asked, .ref (a_p0 3), .ref (a_p0 4), .ref (a_p0 5), .ref (a_p0 6), .ref (a_p0 7), .int s_p0_newPoints, .int s_p0_newLines, .ref (a_p0 10), .ref (a_p0 11), .long s_p0_faultAt, .int s_p0_tries, .int s_p0_things, .int s_p0_goals, .ref (a_p0 16), .ref (a_p0 17), .ref (a_p0 18), .ref (a_p0 19), .ref (a_p0 20), .ref (a_p0 21), .int s_p0_level, .ref (a_p0 23), .ref (a_p0 24), .ref (a_p0 25), .ref (a_p0 26), .ref (a_p0 27), .ref (a_p0 28), .ref (a_p0 29), .ref (a_p0 30), .ref (a_p0 31), .ref (a_p0 32)]]
abbrev r_X7_tries (E : vE) (T : Nat → ClassId) (o_p0 : Nat) (a_p0 : Nat → Nat) (s_p0_finding : Int32) (s_p0_asked : Int64) (s_p0_newPoints : Int32) (s_p0_newLines : Int32) (s_p0_faultAt : Int64) (s_p0_tries : Int32) (s_p0_things : Int32) (s_p0_goals : Int32) (s_p0_level : Int32) (Q : Int32 → Prop) : Prop := vRi E cX7_tries (fun v (u : Unit) => Q v) (fun (u : Unit) => (cl_X7_tries T o_p0 a_p0 s_p0_finding s_p0_asked s_p0_newPoints s_p0_newLines s_p0_faultAt s_p0_tries s_p0_things s_p0_goals s_p0_level))
def w_X7_tries (s_p0_tries : Int32) (Q : Int32 → Prop) : Prop := (Q s_p0_tries)
-- X7_tries
theorem iX7_tries_X7 : ∀ w ∈ wsX70, w ∈ wsX7_tries := by decide +kernel
set_option maxHeartbeats 4000000 in
set_option maxRecDepth 100000 in
theorem c_X7_tries {l : Launch} {D : va_G} {T : Nat → ClassId} {o_p0 : Nat} {a_p0 : Nat → Nat} {s_p0_finding : Int32} {s_p0_asked : Int64} {s_p0_newPoints : Int32} {s_p0_newLines : Int32} {s_p0_faultAt : Int64} {s_p0_tries : Int32} {s_p0_things : Int32} {s_p0_goals : Int32} {s_p0_level : Int32} {Q : Int32 → Prop} (h : w_X7_tries s_p0_tries Q) : vCi l D (vT T) yX7_tries wsX7_tries (vr 0 0) [.ref o_p0] (cl_X7_tries T o_p0 a_p0 s_p0_finding s_p0_asked s_p0_newPoints s_p0_newLines s_p0_faultAt s_p0_tries s_p0_things s_p0_goals s_p0_level) (fun v (u : Unit) => Q v) (fun (u : Unit) => (cl_X7_tries T o_p0 a_p0 s_p0_finding s_p0_asked s_p0_newPoints s_p0_newLines s_p0_faultAt s_p0_tries s_p0_things s_p0_goals s_p0_level)) := by
  refine vC_i (cc := cX7_tries) (nL := 1) (by decide +kernel) rfl ⟨rfl, rfl⟩ (Nat.le_of_ble_eq_true rfl) rfl ?_
  intro E el eD X r
  unfold w_X7_tries at h
  refine v_aload_n X 0 dX7_tries_0 rfl rfl ?_
  refine v_get X 0 13 (F := TX7) (N := 33) iX7_tries_X7 rfl rfl (by decide) (List.mem_of_getElem? (i := 1) rfl) rfl rfl dX7_tries_1 ?_
  exact r _ _ _ () _ dX7_tries_4 h rfl
-- X7_clear
abbrev cl_X7_clear (T : Nat → ClassId) (o_p0 : Nat) (a_p0 : Nat → Nat) (s_p0_finding : Int32) (s_p0_asked : Int64) (s_p0_newPoints : Int32) (s_p0_newLines : Int32) (s_p0_faultAt : Int64) (s_p0_tries : Int32) (s_p0_things : Int32) (s_p0_goals : Int32) (s_p0_level : Int32) (s_p0_table : Nat → Int32) : va_W := [vO o_p0 4 [.int s_p0_finding, .ref (a_p0 1), .long s_p0_asked, .ref (a_p0 3), .ref (a_p0 4), .ref (a_p0 5), .ref (a_p0 6), .ref (a_p0 7), .int s_p0_newPoints, .int s_p0_newLines, .ref (a_p0 10), .ref (a_p0 11), .long s_p0_faultAt, .int s_p0_tries, .int s_p0_things, .int s_p0_goals, .ref (a_p0 16), .ref (a_p0 17), .ref (a_p0 18), .ref (a_p0 19), .ref (a_p0 20), .ref (a_p0 21), .int s_p0_level, .ref (a_p0 23), .ref (a_p0 24), .ref (a_p0 25), .ref (a_p0 26), .ref (a_p0 27), .ref (a_p0 28), .ref (a_p0 29), .ref (a_p0 30), .ref (a_p0 31), .ref (a_p0 32)], vI T (a_p0 23) 2025 s_p0_table]
abbrev r_X7_clear (E : vE) (T : Nat → ClassId) (o_p0 : Nat) (a_p0 : Nat → Nat) (s_p0_finding : Int32) (s_p0_asked : Int64) (s_p0_newPoints : Int32) (s_p0_newLines : Int32) (s_p0_faultAt : Int64) (s_p0_tries : Int32) (s_p0_things : Int32) (s_p0_goals : Int32) (s_p0_level : Int32) (Q : (Nat → Int32) → Prop) : Prop := vRv E cX7_clear (fun (u : (Nat → Int32)) => Q u) (fun (u : (Nat → Int32)) => (cl_X7_clear T o_p0 a_p0 s_p0_finding s_p0_asked s_p0_newPoints s_p0_newLines s_p0_faultAt s_p0_tries s_p0_things s_p0_goals s_p0_level u))
def w_X7_clear_103 (s_p0_table : Nat → Int32) (Q : (Nat → Int32) → Prop) : Prop := (Q s_p0_table)
def w_X7_clear_29s (x_1 : Int32) (x_2 : Int32) (x_4 : Int32) (x_5 : Int32) (x_6 : Int32) (Q : (Nat → Int32) → Prop) (K_29 : (Int32) → (Nat → Int32) → Prop) (x_7 : Int32) (s_p0_table : Nat → Int32) : Prop := (((45 : Int32) ≤ x_7 → (w_X7_clear_103 s_p0_table Q)) ∧ (¬ (45 : Int32) ≤ x_7 → ((x_5 = 0 → (w_X7_clear_103 s_p0_table Q)) ∧ (¬ x_5 = 0 → (vp_in (((45 : Int32) * x_1) + x_7) 2025 ∧ (vp_in (((45 : Int32) * x_2) + x_7) 2025 ∧ (∀ (y_72 : Int32), y_72 = (((s_p0_table ((((45 : Int32) * x_1) + x_7)).toNatClampNeg) * x_6) - ((s_p0_table ((((45 : Int32) * x_2) + x_7)).toNatClampNeg) * x_5)) → (¬ x_4 = 0 ∧ (¬ x_4 = 0 ∧ (vp_in (((45 : Int32) * x_1) + x_7) 2025 ∧ (K_29 (x_7 + (1 : Int32)) (upd s_p0_table ((((45 : Int32) * x_1) + x_7)).toNatClampNeg (vrem ((vrem y_72 x_4) + x_4) x_4)))))))))))))
def w_X7_clear_29 (x_1 : Int32) (x_2 : Int32) (x_4 : Int32) (x_5 : Int32) (x_6 : Int32) (Q : (Nat → Int32) → Prop) : Nat → (Int32) → (Nat → Int32) → Prop
  | 0 => fun _ _ => False
  | n_ + 1 => w_X7_clear_29s x_1 x_2 x_4 x_5 x_6 Q (w_X7_clear_29 x_1 x_2 x_4 x_5 x_6 Q n_)
def w_X7_clear (x_1 : Int32) (x_2 : Int32) (x_3 : Int32) (x_4 : Int32) (s_p0_table : Nat → Int32) (Q : (Nat → Int32) → Prop) : Prop := (vp_in (((45 : Int32) * x_1) + x_3) 2025 ∧ (vp_in (((45 : Int32) * x_2) + x_3) 2025 ∧ (∃ n_, w_X7_clear_29 x_1 x_2 x_4 (s_p0_table ((((45 : Int32) * x_1) + x_3)).toNatClampNeg) (s_p0_table ((((45 : Int32) * x_2) + x_3)).toNatClampNeg) Q n_ x_3 s_p0_table)))
-- X7_clear
theorem iX7_clear_X7 : ∀ w ∈ wsX70, w ∈ wsX7_clear := by decide +kernel
set_option maxHeartbeats 4000000 in
set_option maxRecDepth 100000 in
theorem k_X7_clear_103 {E : vE} {T : Nat → ClassId} {o_p0 : Nat} {a_p0 : Nat → Nat} {s_p0_finding : Int32} {s_p0_asked : Int64} {s_p0_newPoints : Int32} {s_p0_newLines : Int32} {s_p0_faultAt : Int64} {s_p0_tries : Int32} {s_p0_things : Int32} {s_p0_goals : Int32} {s_p0_level : Int32} {s_p0_table : Nat → Int32} {Q : (Nat → Int32) → Prop} (X : vX E cX7_clear 9 RX7 wsX7_clear (vT T) (vr 0 0)) (r : r_X7_clear E T o_p0 a_p0 s_p0_finding s_p0_asked s_p0_newPoints s_p0_newLines s_p0_faultAt s_p0_tries s_p0_things s_p0_goals s_p0_level Q) (h : w_X7_clear_103 s_p0_table Q) : V E 0 0 103 [] [] (cl_X7_clear T o_p0 a_p0 s_p0_finding s_p0_asked s_p0_newPoints s_p0_newLines s_p0_faultAt s_p0_tries s_p0_things s_p0_goals s_p0_level s_p0_table) := by
  unfold w_X7_clear_103 at h
  exact r _ _ (s_p0_table) _ dX7_clear_103 h rfl
set_option maxHeartbeats 4000000 in
set_option maxRecDepth 100000 in
theorem k_X7_clear_29 {E : vE} {T : Nat → ClassId} {o_p0 : Nat} {a_p0 : Nat → Nat} {s_p0_finding : Int32} {s_p0_asked : Int64} {s_p0_newPoints : Int32} {s_p0_newLines : Int32} {s_p0_faultAt : Int64} {s_p0_tries : Int32} {s_p0_things : Int32} {s_p0_goals : Int32} {s_p0_level : Int32} {x_1 : Int32} {x_2 : Int32} {x_4 : Int32} {x_5 : Int32} {x_6 : Int32} {Q : (Nat → Int32) → Prop} (X : vX E cX7_clear 9 RX7 wsX7_clear (vT T) (vr 0 0)) (r : r_X7_clear E T o_p0 a_p0 s_p0_finding s_p0_asked s_p0_newPoints s_p0_newLines s_p0_faultAt s_p0_tries s_p0_things s_p0_goals s_p0_level Q) : ∀ (n_ : Nat) (x_7 : Int32) (s_p0_table : Nat → Int32), w_X7_clear_29 x_1 x_2 x_4 x_5 x_6 Q n_ x_7 s_p0_table → V E 0 0 29 [(0, .ref o_p0), (1, .int x_1), (2, .int x_2), (4, .int x_4), (5, .int x_5), (6, .int x_6), (7, .int x_7)] [] (cl_X7_clear T o_p0 a_p0 s_p0_finding s_p0_asked s_p0_newPoints s_p0_newLines s_p0_faultAt s_p0_tries s_p0_things s_p0_goals s_p0_level s_p0_table) := by
  intro n_
  induction n_ with
  | zero => intro x_7 s_p0_table h; exact h.elim
  | succ n_ hK_29 =>
    intro x_7 s_p0_table h
    replace h : w_X7_clear_29s x_1 x_2 x_4 x_5 x_6 Q (w_X7_clear_29 x_1 x_2 x_4 x_5 x_6 Q n_) x_7 s_p0_table := h
    unfold w_X7_clear_29s at h
    refine v_iload X 6 dX7_clear_29 rfl ?_
    refine v_bipush X dX7_clear_31 (v := (45 : Int32)) (by decide) ?_
    refine v_icmp_ge X (tgt := 103) dX7_clear_33 (by decide) (fun c_33 => ?_) (fun c_33 => ?_)
    · replace h := h.1 c_33
      refine v_lv (lv' := []) [] rfl ?_
      exact k_X7_clear_103 X r h
    · replace h := h.2 c_33
      refine v_iload X 4 dX7_clear_36 rfl ?_
      refine v_if_eq X (tgt := 103) dX7_clear_38 (by decide) (fun c_38 => ?_) (fun c_38 => ?_)
      · replace h := h.1 c_38
        refine v_lv (lv' := []) [] rfl ?_
        exact k_X7_clear_103 X r h
      · replace h := h.2 c_38
        refine v_aload_n X 0 dX7_clear_41 rfl rfl ?_
        refine v_get X 0 23 (F := TX7) (N := 33) iX7_clear_X7 rfl rfl (by decide) (List.mem_of_getElem? (i := 1) rfl) rfl rfl dX7_clear_42 ?_
        refine v_bipush X dX7_clear_45 (v := (45 : Int32)) (by decide) ?_
        refine v_iload_n X 1 dX7_clear_47 rfl rfl ?_
        refine v_imul X dX7_clear_48 ?_
        refine v_iload X 6 dX7_clear_49 rfl ?_
        refine v_iadd X dX7_clear_51 ?_
        refine v_iald X 1 0 rfl rfl h.1 dX7_clear_52 ?_
        replace h := h.2
        refine v_iload X 5 dX7_clear_53 rfl ?_
        refine v_imul X dX7_clear_55 ?_
        refine v_aload_n X 0 dX7_clear_56 rfl rfl ?_
        refine v_get X 0 23 (F := TX7) (N := 33) iX7_clear_X7 rfl rfl (by decide) (List.mem_of_getElem? (i := 1) rfl) rfl rfl dX7_clear_57 ?_
        refine v_bipush X dX7_clear_60 (v := (45 : Int32)) (by decide) ?_
        refine v_iload_n X 2 dX7_clear_62 rfl rfl ?_
        refine v_imul X dX7_clear_63 ?_
        refine v_iload X 6 dX7_clear_64 rfl ?_
        refine v_iadd X dX7_clear_66 ?_
        refine v_iald X 1 0 rfl rfl h.1 dX7_clear_67 ?_
        replace h := h.2
        refine v_iload X 4 dX7_clear_68 rfl ?_
        refine v_imul X dX7_clear_70 ?_
        refine v_isub X dX7_clear_71 ?_
        refine v_topi (fun y_72 e_72 => ?_)
        replace h := h y_72 e_72
        refine v_istore X (lv' := [(8, .int y_72), (0, .ref o_p0), (1, .int x_1), (2, .int x_2), (4, .int x_4), (5, .int x_5), (6, .int x_6), (7, .int x_7)]) dX7_clear_72 (by decide) rfl ?_
        refine v_aload_n X 1 dX7_clear_74 rfl rfl ?_
        refine v_get X 0 23 (F := TX7) (N := 33) iX7_clear_X7 rfl rfl (by decide) (List.mem_of_getElem? (i := 1) rfl) rfl rfl dX7_clear_75 ?_
        refine v_bipush X dX7_clear_78 (v := (45 : Int32)) (by decide) ?_
        refine v_iload_n X 2 dX7_clear_80 rfl rfl ?_
        refine v_imul X dX7_clear_81 ?_
        refine v_iload X 7 dX7_clear_82 rfl ?_
        refine v_iadd X dX7_clear_84 ?_
        refine v_iload X 0 dX7_clear_85 rfl ?_
        refine v_iload X 4 dX7_clear_87 rfl ?_
        refine v_irem X dX7_clear_89 h.1 ?_
        replace h := h.2
        refine v_iload X 4 dX7_clear_90 rfl ?_
        refine v_iadd X dX7_clear_92 ?_
        refine v_iload X 4 dX7_clear_93 rfl ?_
        refine v_irem X dX7_clear_95 h.1 ?_
        replace h := h.2
        refine v_iast X (ws' := (cl_X7_clear T o_p0 a_p0 s_p0_finding s_p0_asked s_p0_newPoints s_p0_newLines s_p0_faultAt s_p0_tries s_p0_things s_p0_goals s_p0_level (upd s_p0_table ((((45 : Int32) * x_1) + x_7)).toNatClampNeg (vrem ((vrem y_72 x_4) + x_4) x_4)))) 1 0 rfl rfl h.1 rfl dX7_clear_96 ?_
        replace h := h.2
        refine v_iinc X (v := (x_7 + (1 : Int32))) (lv' := [(7, .int (x_7 + (1 : Int32))), (8, .int y_72), (0, .ref o_p0), (1, .int x_1), (2, .int x_2), (4, .int x_4), (5, .int x_5), (6, .int x_6)]) 7 dX7_clear_97 rfl rfl (by decide) rfl ?_
        refine v_goto X (tgt := 29) dX7_clear_100 (by decide) ?_
        refine v_lv (lv' := [(0, .ref o_p0), (1, .int x_1), (2, .int x_2), (4, .int x_4), (5, .int x_5), (6, .int x_6), (7, .int (x_7 + (1 : Int32)))]) [2, 3, 4, 5, 6, 7, 0] rfl ?_
        exact hK_29 _ _ h
set_option maxHeartbeats 4000000 in
set_option maxRecDepth 100000 in
theorem c_X7_clear {l : Launch} {D : va_G} {T : Nat → ClassId} {o_p0 : Nat} {a_p0 : Nat → Nat} {s_p0_finding : Int32} {s_p0_asked : Int64} {s_p0_newPoints : Int32} {s_p0_newLines : Int32} {s_p0_faultAt : Int64} {s_p0_tries : Int32} {s_p0_things : Int32} {s_p0_goals : Int32} {s_p0_level : Int32} {s_p0_table : Nat → Int32} {x_1 : Int32} {x_2 : Int32} {x_3 : Int32} {x_4 : Int32} {Q : (Nat → Int32) → Prop} (h : w_X7_clear x_1 x_2 x_3 x_4 s_p0_table Q) : vCv l D (vT T) yX7_clear wsX7_clear (vr 0 0) [.ref o_p0, .int x_1, .int x_2, .int x_3, .int x_4] (cl_X7_clear T o_p0 a_p0 s_p0_finding s_p0_asked s_p0_newPoints s_p0_newLines s_p0_faultAt s_p0_tries s_p0_things s_p0_goals s_p0_level s_p0_table) (fun (u : (Nat → Int32)) => Q u) (fun (u : (Nat → Int32)) => (cl_X7_clear T o_p0 a_p0 s_p0_finding s_p0_asked s_p0_newPoints s_p0_newLines s_p0_faultAt s_p0_tries s_p0_things s_p0_goals s_p0_level u)) := by
  refine vC_v (cc := cX7_clear) (nL := 9) (by decide +kernel) rfl ⟨rfl, rfl⟩ (Nat.le_of_ble_eq_true rfl) rfl ?_
  intro E el eD X r
  unfold w_X7_clear at h
  refine v_aload_n X 0 dX7_clear_0 rfl rfl ?_
  refine v_get X 0 23 (F := TX7) (N := 33) iX7_clear_X7 rfl rfl (by decide) (List.mem_of_getElem? (i := 1) rfl) rfl rfl dX7_clear_1 ?_
  refine v_bipush X dX7_clear_4 (v := (45 : Int32)) (by decide) ?_
  refine v_iload_n X 1 dX7_clear_6 rfl rfl ?_
  refine v_imul X dX7_clear_7 ?_
  refine v_iload_n X 3 dX7_clear_8 rfl rfl ?_
  refine v_iadd X dX7_clear_9 ?_
  refine v_iald X 1 0 rfl rfl h.1 dX7_clear_10 ?_
  replace h := h.2
  refine v_istore X (lv' := [(5, .int (s_p0_table ((((45 : Int32) * x_1) + x_3)).toNatClampNeg)), (0, .ref o_p0), (1, .int x_1), (2, .int x_2), (3, .int x_3), (4, .int x_4)]) dX7_clear_11 (by decide) rfl ?_
  refine v_aload_n X 1 dX7_clear_13 rfl rfl ?_
  refine v_get X 0 23 (F := TX7) (N := 33) iX7_clear_X7 rfl rfl (by decide) (List.mem_of_getElem? (i := 1) rfl) rfl rfl dX7_clear_14 ?_
  refine v_bipush X dX7_clear_17 (v := (45 : Int32)) (by decide) ?_
  refine v_iload_n X 3 dX7_clear_19 rfl rfl ?_
  refine v_imul X dX7_clear_20 ?_
  refine v_iload_n X 4 dX7_clear_21 rfl rfl ?_
  refine v_iadd X dX7_clear_22 ?_
  refine v_iald X 1 0 rfl rfl h.1 dX7_clear_23 ?_
  replace h := h.2
  refine v_istore X (lv' := [(6, .int (s_p0_table ((((45 : Int32) * x_2) + x_3)).toNatClampNeg)), (5, .int (s_p0_table ((((45 : Int32) * x_1) + x_3)).toNatClampNeg)), (0, .ref o_p0), (1, .int x_1), (2, .int x_2), (3, .int x_3), (4, .int x_4)]) dX7_clear_24 (by decide) rfl ?_
  refine v_iload_n X 5 dX7_clear_26 rfl rfl ?_
  refine v_istore X (lv' := [(7, .int x_3), (6, .int (s_p0_table ((((45 : Int32) * x_2) + x_3)).toNatClampNeg)), (5, .int (s_p0_table ((((45 : Int32) * x_1) + x_3)).toNatClampNeg)), (0, .ref o_p0), (1, .int x_1), (2, .int x_2), (3, .int x_3), (4, .int x_4)]) dX7_clear_27 (by decide) rfl ?_
  refine v_lv (lv' := [(0, .ref o_p0), (1, .int x_1), (2, .int x_2), (4, .int x_4), (5, .int (s_p0_table ((((45 : Int32) * x_1) + x_3)).toNatClampNeg)), (6, .int (s_p0_table ((((45 : Int32) * x_2) + x_3)).toNatClampNeg)), (7, .int x_3)]) [3, 4, 5, 7, 2, 1, 0] rfl ?_
  obtain ⟨n_, h⟩ := h
  exact k_X7_clear_29 X r n_ _ _ h
-- X7_swap
abbrev cl_X7_swap (T : Nat → ClassId) (o_p0 : Nat) (a_p0 : Nat → Nat) (s_p0_finding : Int32) (s_p0_asked : Int64) (s_p0_newPoints : Int32) (s_p0_newLines : Int32) (s_p0_faultAt : Int64) (s_p0_tries : Int32) (s_p0_things : Int32) (s_p0_goals : Int32) (s_p0_level : Int32) (s_p0_table : Nat → Int32) : va_W := [vO o_p0 4 [.int s_p0_finding, .ref (a_p0 1), .long s_p0_asked, .ref (a_p0 3), .ref (a_p0 4), .ref (a_p0 5), .ref (a_p0 6), .ref (a_p0 7), .int s_p0_newPoints, .int s_p0_newLines, .ref (a_p0 10), .ref (a_p0 11), .long s_p0_faultAt, .int s_p0_tries, .int s_p0_things, .int s_p0_goals, .ref (a_p0 16), .ref (a_p0 17), .ref (a_p0 18), .ref (a_p0 19), .ref (a_p0 20), .ref (a_p0 21), .int s_p0_level, .ref (a_p0 23), .ref (a_p0 24), .ref (a_p0 25), .ref (a_p0 26), .ref (a_p0 27), .ref (a_p0 28), .ref (a_p0 29), .ref (a_p0 30), .ref (a_p0 31), .ref (a_p0 32)], vI T (a_p0 23) 2025 s_p0_table]
abbrev r_X7_swap (E : vE) (T : Nat → ClassId) (o_p0 : Nat) (a_p0 : Nat → Nat) (s_p0_finding : Int32) (s_p0_asked : Int64) (s_p0_newPoints : Int32) (s_p0_newLines : Int32) (s_p0_faultAt : Int64) (s_p0_tries : Int32) (s_p0_things : Int32) (s_p0_goals : Int32) (s_p0_level : Int32) (Q : (Nat → Int32) → Prop) : Prop := vRv E cX7_swap (fun (u : (Nat → Int32)) => Q u) (fun (u : (Nat → Int32)) => (cl_X7_swap T o_p0 a_p0 s_p0_finding s_p0_asked s_p0_newPoints s_p0_newLines s_p0_faultAt s_p0_tries s_p0_things s_p0_goals s_p0_level u))
def w_X7_swap_2s (x_1 : Int32) (x_2 : Int32) (Q : (Nat → Int32) → Prop) (K_2 : (Int32) → (Nat → Int32) → Prop) (x_3 : Int32) (s_p0_table : Nat → Int32) : Prop := (((45 : Int32) ≤ x_3 → (Q s_p0_table)) ∧ (¬ (45 : Int32) ≤ x_3 → (vp_in (((45 : Int32) * x_1) + x_3) 2025 ∧ (vp_in (((45 : Int32) * x_2) + x_3) 2025 ∧ (vp_in (((45 : Int32) * x_1) + x_3) 2025 ∧ (vp_in (((45 : Int32) * x_2) + x_3) 2025 ∧ (K_2 (x_3 + (1 : Int32)) (upd (upd s_p0_table ((((45 : Int32) * x_1) + x_3)).toNatClampNeg (s_p0_table ((((45 : Int32) * x_2) + x_3)).toNatClampNeg)) ((((45 : Int32) * x_2) + x_3)).toNatClampNeg (s_p0_table ((((45 : Int32) * x_1) + x_3)).toNatClampNeg)))))))))
def w_X7_swap_2 (x_1 : Int32) (x_2 : Int32) (Q : (Nat → Int32) → Prop) : Nat → (Int32) → (Nat → Int32) → Prop
  | 0 => fun _ _ => False
  | n_ + 1 => w_X7_swap_2s x_1 x_2 Q (w_X7_swap_2 x_1 x_2 Q n_)
def w_X7_swap (x_1 : Int32) (x_2 : Int32) (s_p0_table : Nat → Int32) (Q : (Nat → Int32) → Prop) : Prop := (∃ n_, w_X7_swap_2 x_1 x_2 Q n_ (0 : Int32) s_p0_table)
-- X7_swap
theorem iX7_swap_X7 : ∀ w ∈ wsX70, w ∈ wsX7_swap := by decide +kernel
set_option maxHeartbeats 4000000 in
set_option maxRecDepth 100000 in
theorem k_X7_swap_2 {E : vE} {T : Nat → ClassId} {o_p0 : Nat} {a_p0 : Nat → Nat} {s_p0_finding : Int32} {s_p0_asked : Int64} {s_p0_newPoints : Int32} {s_p0_newLines : Int32} {s_p0_faultAt : Int64} {s_p0_tries : Int32} {s_p0_things : Int32} {s_p0_goals : Int32} {s_p0_level : Int32} {x_1 : Int32} {x_2 : Int32} {Q : (Nat → Int32) → Prop} (X : vX E cX7_swap 5 RX7 wsX7_swap (vT T) (vr 0 0)) (r : r_X7_swap E T o_p0 a_p0 s_p0_finding s_p0_asked s_p0_newPoints s_p0_newLines s_p0_faultAt s_p0_tries s_p0_things s_p0_goals s_p0_level Q) : ∀ (n_ : Nat) (x_3 : Int32) (s_p0_table : Nat → Int32), w_X7_swap_2 x_1 x_2 Q n_ x_3 s_p0_table → V E 0 0 2 [(0, .ref o_p0), (1, .int x_1), (2, .int x_2), (3, .int x_3)] [] (cl_X7_swap T o_p0 a_p0 s_p0_finding s_p0_asked s_p0_newPoints s_p0_newLines s_p0_faultAt s_p0_tries s_p0_things s_p0_goals s_p0_level s_p0_table) := by
  intro n_
  induction n_ with
  | zero => intro x_3 s_p0_table h; exact h.elim
  | succ n_ hK_2 =>
    intro x_3 s_p0_table h
    replace h : w_X7_swap_2s x_1 x_2 Q (w_X7_swap_2 x_1 x_2 Q n_) x_3 s_p0_table := h
    unfold w_X7_swap_2s at h
    refine v_iload_n X 3 dX7_swap_2 rfl rfl ?_
    refine v_bipush X dX7_swap_3 (v := (45 : Int32)) (by decide) ?_
    refine v_icmp_ge X (tgt := 62) dX7_swap_5 (by decide) (fun c_5 => ?_) (fun c_5 => ?_)
    · replace h := h.1 c_5
      exact r _ _ (s_p0_table) _ dX7_swap_62 h rfl
    · replace h := h.2 c_5
      refine v_aload_n X 0 dX7_swap_8 rfl rfl ?_
      refine v_get X 0 23 (F := TX7) (N := 33) iX7_swap_X7 rfl rfl (by decide) (List.mem_of_getElem? (i := 1) rfl) rfl rfl dX7_swap_9 ?_
      refine v_bipush X dX7_swap_12 (v := (45 : Int32)) (by decide) ?_
      refine v_iload_n X 1 dX7_swap_14 rfl rfl ?_
      refine v_imul X dX7_swap_15 ?_
      refine v_iload_n X 3 dX7_swap_16 rfl rfl ?_
      refine v_iadd X dX7_swap_17 ?_
      refine v_iald X 1 0 rfl rfl h.1 dX7_swap_18 ?_
      replace h := h.2
      refine v_istore X (lv' := [(4, .int (s_p0_table ((((45 : Int32) * x_1) + x_3)).toNatClampNeg)), (0, .ref o_p0), (1, .int x_1), (2, .int x_2), (3, .int x_3)]) dX7_swap_19 (by decide) rfl ?_
      refine v_aload_n X 1 dX7_swap_21 rfl rfl ?_
      refine v_get X 0 23 (F := TX7) (N := 33) iX7_swap_X7 rfl rfl (by decide) (List.mem_of_getElem? (i := 1) rfl) rfl rfl dX7_swap_22 ?_
      refine v_bipush X dX7_swap_25 (v := (45 : Int32)) (by decide) ?_
      refine v_iload_n X 2 dX7_swap_27 rfl rfl ?_
      refine v_imul X dX7_swap_28 ?_
      refine v_iload_n X 4 dX7_swap_29 rfl rfl ?_
      refine v_iadd X dX7_swap_30 ?_
      refine v_aload_n X 1 dX7_swap_31 rfl rfl ?_
      refine v_get X 0 23 (F := TX7) (N := 33) iX7_swap_X7 rfl rfl (by decide) (List.mem_of_getElem? (i := 1) rfl) rfl rfl dX7_swap_32 ?_
      refine v_bipush X dX7_swap_35 (v := (45 : Int32)) (by decide) ?_
      refine v_iload_n X 3 dX7_swap_37 rfl rfl ?_
      refine v_imul X dX7_swap_38 ?_
      refine v_iload_n X 4 dX7_swap_39 rfl rfl ?_
      refine v_iadd X dX7_swap_40 ?_
      refine v_iald X 1 0 rfl rfl h.1 dX7_swap_41 ?_
      replace h := h.2
      refine v_iast X (ws' := (cl_X7_swap T o_p0 a_p0 s_p0_finding s_p0_asked s_p0_newPoints s_p0_newLines s_p0_faultAt s_p0_tries s_p0_things s_p0_goals s_p0_level (upd s_p0_table ((((45 : Int32) * x_1) + x_3)).toNatClampNeg (s_p0_table ((((45 : Int32) * x_2) + x_3)).toNatClampNeg)))) 1 0 rfl rfl h.1 rfl dX7_swap_42 ?_
      replace h := h.2
      refine v_aload_n X 1 dX7_swap_43 rfl rfl ?_
      refine v_get X 0 23 (F := TX7) (N := 33) iX7_swap_X7 rfl rfl (by decide) (List.mem_of_getElem? (i := 1) rfl) rfl rfl dX7_swap_44 ?_
      refine v_bipush X dX7_swap_47 (v := (45 : Int32)) (by decide) ?_
      refine v_iload_n X 3 dX7_swap_49 rfl rfl ?_
      refine v_imul X dX7_swap_50 ?_
      refine v_iload_n X 4 dX7_swap_51 rfl rfl ?_
      refine v_iadd X dX7_swap_52 ?_
      refine v_iload X 0 dX7_swap_53 rfl ?_
      refine v_iast X (ws' := (cl_X7_swap T o_p0 a_p0 s_p0_finding s_p0_asked s_p0_newPoints s_p0_newLines s_p0_faultAt s_p0_tries s_p0_things s_p0_goals s_p0_level (upd (upd s_p0_table ((((45 : Int32) * x_1) + x_3)).toNatClampNeg (s_p0_table ((((45 : Int32) * x_2) + x_3)).toNatClampNeg)) ((((45 : Int32) * x_2) + x_3)).toNatClampNeg (s_p0_table ((((45 : Int32) * x_1) + x_3)).toNatClampNeg)))) 1 0 rfl rfl h.1 rfl dX7_swap_55 ?_
      replace h := h.2
      refine v_iinc X (v := (x_3 + (1 : Int32))) (lv' := [(3, .int (x_3 + (1 : Int32))), (4, .int (s_p0_table ((((45 : Int32) * x_1) + x_3)).toNatClampNeg)), (0, .ref o_p0), (1, .int x_1), (2, .int x_2)]) 4 dX7_swap_56 rfl rfl (by decide) rfl ?_
      refine v_goto X (tgt := 2) dX7_swap_59 (by decide) ?_
      refine v_lv (lv' := [(0, .ref o_p0), (1, .int x_1), (2, .int x_2), (3, .int (x_3 + (1 : Int32)))]) [2, 3, 4, 0] rfl ?_
      exact hK_2 _ _ h
set_option maxHeartbeats 4000000 in
set_option maxRecDepth 100000 in
theorem c_X7_swap {l : Launch} {D : va_G} {T : Nat → ClassId} {o_p0 : Nat} {a_p0 : Nat → Nat} {s_p0_finding : Int32} {s_p0_asked : Int64} {s_p0_newPoints : Int32} {s_p0_newLines : Int32} {s_p0_faultAt : Int64} {s_p0_tries : Int32} {s_p0_things : Int32} {s_p0_goals : Int32} {s_p0_level : Int32} {s_p0_table : Nat → Int32} {x_1 : Int32} {x_2 : Int32} {Q : (Nat → Int32) → Prop} (h : w_X7_swap x_1 x_2 s_p0_table Q) : vCv l D (vT T) yX7_swap wsX7_swap (vr 0 0) [.ref o_p0, .int x_1, .int x_2] (cl_X7_swap T o_p0 a_p0 s_p0_finding s_p0_asked s_p0_newPoints s_p0_newLines s_p0_faultAt s_p0_tries s_p0_things s_p0_goals s_p0_level s_p0_table) (fun (u : (Nat → Int32)) => Q u) (fun (u : (Nat → Int32)) => (cl_X7_swap T o_p0 a_p0 s_p0_finding s_p0_asked s_p0_newPoints s_p0_newLines s_p0_faultAt s_p0_tries s_p0_things s_p0_goals s_p0_level u)) := by
  refine vC_v (cc := cX7_swap) (nL := 5) (by decide +kernel) rfl ⟨rfl, rfl⟩ (Nat.le_of_ble_eq_true rfl) rfl ?_
  intro E el eD X r
  unfold w_X7_swap at h
  refine v_iconst X dX7_swap_0 (v := (0 : Int32)) (by decide) ?_
  refine v_istore_n X (lv' := [(3, .int (0 : Int32)), (0, .ref o_p0), (1, .int x_1), (2, .int x_2)]) dX7_swap_1 rfl (by decide) rfl ?_
  refine v_lv (lv' := [(0, .ref o_p0), (1, .int x_1), (2, .int x_2), (3, .int (0 : Int32))]) [1, 2, 3, 0] rfl ?_
  obtain ⟨n_, h⟩ := h
  exact k_X7_swap_2 X r n_ _ _ h
-- X7_rank
abbrev cl_X7_rank (T : Nat → ClassId) (o_p0 : Nat) (a_p0 : Nat → Nat) (s_p0_finding : Int32) (s_p0_asked : Int64) (s_p0_newPoints : Int32) (s_p0_newLines : Int32) (s_p0_faultAt : Int64) (s_p0_tries : Int32) (s_p0_things : Int32) (s_p0_goals : Int32) (s_p0_level : Int32) (s_p0_findings : Nat → Int32) (s_p0_lineCount : Nat → Int32) (s_p0_lines : Nat → Int64) (s_p0_points : Nat → Int32) (s_p0_table : Nat → Int32) : va_W := [vO o_p0 4 [.int s_p0_finding, .ref (a_p0 1), .long s_p0_asked, .ref (a_p0 3), .ref (a_p0 4), .ref (a_p0 5), .ref (a_p0 6), .ref (a_p0 7), .int s_p0_newPoints, .int s_p0_newLines, .ref (a_p0 10), .ref (a_p0 11), .long s_p0_faultAt, .int s_p0_tries, .int s_p0_things, .int s_p0_goals, .ref (a_p0 16), .ref (a_p0 17), .ref (a_p0 18), .ref (a_p0 19), .ref (a_p0 20), .ref (a_p0 21), .int s_p0_level, .ref (a_p0 23), .ref (a_p0 24), .ref (a_p0 25), .ref (a_p0 26), .ref (a_p0 27), .ref (a_p0 28), .ref (a_p0 29), .ref (a_p0 30), .ref (a_p0 31), .ref (a_p0 32)], vI T (a_p0 1) 6 s_p0_findings, vI T (a_p0 4) 6 s_p0_lineCount, vJ T (a_p0 7) 270 s_p0_lines, vI T (a_p0 3) 6 s_p0_points, vI T (a_p0 23) 2025 s_p0_table]
abbrev r_X7_rank (E : vE) (T : Nat → ClassId) (o_p0 : Nat) (a_p0 : Nat → Nat) (s_p0_asked : Int64) (s_p0_newPoints : Int32) (s_p0_newLines : Int32) (s_p0_faultAt : Int64) (s_p0_tries : Int32) (s_p0_things : Int32) (s_p0_goals : Int32) (s_p0_level : Int32) (s_p0_lineCount : Nat → Int32) (s_p0_lines : Nat → Int64) (s_p0_points : Nat → Int32) (Q : Int32 → (Int32) → (Nat → Int32) → (Nat → Int32) → Prop) : Prop := vRi E cX7_rank (fun v (u : (Int32) × (Nat → Int32) × (Nat → Int32)) => Q v u.1 u.2.1 u.2.2) (fun (u : (Int32) × (Nat → Int32) × (Nat → Int32)) => (cl_X7_rank T o_p0 a_p0 u.1 s_p0_asked s_p0_newPoints s_p0_newLines s_p0_faultAt s_p0_tries s_p0_things s_p0_goals s_p0_level u.2.1 s_p0_lineCount s_p0_lines s_p0_points u.2.2))
def w_X7_rank_209 (x_1 : Int32) (x_2 : Int32) (x_4 : Int32) (x_5 : Int32) (x_6 : Int32) (s_p0_finding : Int32) (s_p0_findings : Nat → Int32) (s_p0_lineCount : Nat → Int32) (s_p0_lines : Nat → Int64) (s_p0_points : Nat → Int32) (s_p0_table : Nat → Int32) (K_117 : (Int32) → (Int32) → (Nat → Int32) → Prop) (Q : Int32 → (Int32) → (Nat → Int32) → (Nat → Int32) → Prop) : Prop := (K_117 x_5 (x_6 + (1 : Int32)) s_p0_table)
def w_X7_rank_182s (x_1 : Int32) (x_2 : Int32) (x_4 : Int32) (x_5 : Int32) (x_6 : Int32) (s_p0_finding : Int32) (s_p0_findings : Nat → Int32) (s_p0_lineCount : Nat → Int32) (s_p0_lines : Nat → Int64) (s_p0_points : Nat → Int32) (K_117 : (Int32) → (Int32) → (Nat → Int32) → Prop) (Q : Int32 → (Int32) → (Nat → Int32) → (Nat → Int32) → Prop) (K_182 : (Int32) → (Nat → Int32) → Prop) (x_8 : Int32) (s_p0_table : Nat → Int32) : Prop := ((x_4 ≤ x_8 → (w_X7_rank_209 x_1 x_2 x_4 (x_5 + (1 : Int32)) x_6 s_p0_finding s_p0_findings s_p0_lineCount s_p0_lines s_p0_points s_p0_table K_117 Q)) ∧ (¬ x_4 ≤ x_8 → (w_X7_clear x_8 x_5 x_6 x_2 s_p0_table (fun (u_197_0 : Nat → Int32) => (K_182 (x_8 + (1 : Int32)) u_197_0)))))
def w_X7_rank_182 (x_1 : Int32) (x_2 : Int32) (x_4 : Int32) (x_5 : Int32) (x_6 : Int32) (s_p0_finding : Int32) (s_p0_findings : Nat → Int32) (s_p0_lineCount : Nat → Int32) (s_p0_lines : Nat → Int64) (s_p0_points : Nat → Int32) (K_117 : (Int32) → (Int32) → (Nat → Int32) → Prop) (Q : Int32 → (Int32) → (Nat → Int32) → (Nat → Int32) → Prop) : Nat → (Int32) → (Nat → Int32) → Prop
  | 0 => fun _ _ => False
  | n_ + 1 => w_X7_rank_182s x_1 x_2 x_4 x_5 x_6 s_p0_finding s_p0_findings s_p0_lineCount s_p0_lines s_p0_points K_117 Q (w_X7_rank_182 x_1 x_2 x_4 x_5 x_6 s_p0_finding s_p0_findings s_p0_lineCount s_p0_lines s_p0_points K_117 Q n_)
def w_X7_rank_161 (x_1 : Int32) (x_2 : Int32) (x_4 : Int32) (x_5 : Int32) (x_6 : Int32) (x_7 : Int32) (s_p0_finding : Int32) (s_p0_findings : Nat → Int32) (s_p0_lineCount : Nat → Int32) (s_p0_lines : Nat → Int64) (s_p0_points : Nat → Int32) (s_p0_table : Nat → Int32) (K_117 : (Int32) → (Int32) → (Nat → Int32) → Prop) (Q : Int32 → (Int32) → (Nat → Int32) → (Nat → Int32) → Prop) : Prop := ((x_4 ≤ x_7 → (w_X7_rank_209 x_1 x_2 x_4 x_5 x_6 s_p0_finding s_p0_findings s_p0_lineCount s_p0_lines s_p0_points s_p0_table K_117 Q)) ∧ (¬ x_4 ≤ x_7 → (w_X7_swap x_7 x_5 s_p0_table (fun (u_173_0 : Nat → Int32) => (∃ n_, w_X7_rank_182 x_1 x_2 x_4 x_5 x_6 s_p0_finding s_p0_findings s_p0_lineCount s_p0_lines s_p0_points K_117 Q n_ (x_5 + (1 : Int32)) u_173_0)))))
def w_X7_rank_132s (x_1 : Int32) (x_2 : Int32) (x_4 : Int32) (x_5 : Int32) (x_6 : Int32) (s_p0_finding : Int32) (s_p0_findings : Nat → Int32) (s_p0_lineCount : Nat → Int32) (s_p0_lines : Nat → Int64) (s_p0_points : Nat → Int32) (s_p0_table : Nat → Int32) (K_117 : (Int32) → (Int32) → (Nat → Int32) → Prop) (Q : Int32 → (Int32) → (Nat → Int32) → (Nat → Int32) → Prop) (K_132 : (Int32) → Prop) (x_7 : Int32) : Prop := ((x_4 ≤ x_7 → (w_X7_rank_161 x_1 x_2 x_4 x_5 x_6 x_7 s_p0_finding s_p0_findings s_p0_lineCount s_p0_lines s_p0_points s_p0_table K_117 Q)) ∧ (¬ x_4 ≤ x_7 → (vp_in (((45 : Int32) * x_7) + x_6) 2025 ∧ ((¬ (s_p0_table ((((45 : Int32) * x_7) + x_6)).toNatClampNeg) = 0 → (w_X7_rank_161 x_1 x_2 x_4 x_5 x_6 x_7 s_p0_finding s_p0_findings s_p0_lineCount s_p0_lines s_p0_points s_p0_table K_117 Q)) ∧ ((s_p0_table ((((45 : Int32) * x_7) + x_6)).toNatClampNeg) = 0 → (K_132 (x_7 + (1 : Int32))))))))
def w_X7_rank_132 (x_1 : Int32) (x_2 : Int32) (x_4 : Int32) (x_5 : Int32) (x_6 : Int32) (s_p0_finding : Int32) (s_p0_findings : Nat → Int32) (s_p0_lineCount : Nat → Int32) (s_p0_lines : Nat → Int64) (s_p0_points : Nat → Int32) (s_p0_table : Nat → Int32) (K_117 : (Int32) → (Int32) → (Nat → Int32) → Prop) (Q : Int32 → (Int32) → (Nat → Int32) → (Nat → Int32) → Prop) : Nat → (Int32) → Prop
  | 0 => fun _ => False
  | n_ + 1 => w_X7_rank_132s x_1 x_2 x_4 x_5 x_6 s_p0_finding s_p0_findings s_p0_lineCount s_p0_lines s_p0_points s_p0_table K_117 Q (w_X7_rank_132 x_1 x_2 x_4 x_5 x_6 s_p0_finding s_p0_findings s_p0_lineCount s_p0_lines s_p0_points s_p0_table K_117 Q n_)
def w_X7_rank_117s (x_1 : Int32) (x_2 : Int32) (x_4 : Int32) (s_p0_finding : Int32) (s_p0_findings : Nat → Int32) (s_p0_lineCount : Nat → Int32) (s_p0_lines : Nat → Int64) (s_p0_points : Nat → Int32) (Q : Int32 → (Int32) → (Nat → Int32) → (Nat → Int32) → Prop) (K_117 : (Int32) → (Int32) → (Nat → Int32) → Prop) (x_5 : Int32) (x_6 : Int32) (s_p0_table : Nat → Int32) : Prop := (vp_in x_1 6 ∧ (((s_p0_points (x_1).toNatClampNeg) ≤ x_6 → (Q x_5 s_p0_finding s_p0_findings s_p0_table)) ∧ (¬ (s_p0_points (x_1).toNatClampNeg) ≤ x_6 → (∃ n_, w_X7_rank_132 x_1 x_2 x_4 x_5 x_6 s_p0_finding s_p0_findings s_p0_lineCount s_p0_lines s_p0_points s_p0_table K_117 Q n_ x_5))))
def w_X7_rank_117 (x_1 : Int32) (x_2 : Int32) (x_4 : Int32) (s_p0_finding : Int32) (s_p0_findings : Nat → Int32) (s_p0_lineCount : Nat → Int32) (s_p0_lines : Nat → Int64) (s_p0_points : Nat → Int32) (Q : Int32 → (Int32) → (Nat → Int32) → (Nat → Int32) → Prop) : Nat → (Int32) → (Int32) → (Nat → Int32) → Prop
  | 0 => fun _ _ _ => False
  | n_ + 1 => w_X7_rank_117s x_1 x_2 x_4 s_p0_finding s_p0_findings s_p0_lineCount s_p0_lines s_p0_points Q (w_X7_rank_117 x_1 x_2 x_4 s_p0_finding s_p0_findings s_p0_lineCount s_p0_lines s_p0_points Q n_)
def w_X7_rank_98 (x_1 : Int32) (x_2 : Int32) (x_4 : Int32) (x_5 : Int32) (x_6 : Int32) (t_1 : Int32) (t_2 : Int32) (s_p0_finding : Int32) (s_p0_findings : Nat → Int32) (s_p0_lineCount : Nat → Int32) (s_p0_lines : Nat → Int64) (s_p0_points : Nat → Int32) (s_p0_table : Nat → Int32) (K_40 : (Int32) → (Nat → Int32) → Prop) (K_50 : (Int32) → (Nat → Int32) → Prop) (Q : Int32 → (Int32) → (Nat → Int32) → (Nat → Int32) → Prop) : Prop := (vp_in t_1 2025 ∧ (K_50 (x_6 + (1 : Int32)) (upd s_p0_table (t_1).toNatClampNeg t_2)))
def w_X7_rank_50s (x_1 : Int32) (x_2 : Int32) (x_4 : Int32) (x_5 : Int32) (s_p0_finding : Int32) (s_p0_findings : Nat → Int32) (s_p0_lineCount : Nat → Int32) (s_p0_lines : Nat → Int64) (s_p0_points : Nat → Int32) (K_40 : (Int32) → (Nat → Int32) → Prop) (Q : Int32 → (Int32) → (Nat → Int32) → (Nat → Int32) → Prop) (K_50 : (Int32) → (Nat → Int32) → Prop) (x_6 : Int32) (s_p0_table : Nat → Int32) : Prop := (vp_in x_1 6 ∧ (((s_p0_points (x_1).toNatClampNeg) ≤ x_6 → (K_40 (x_5 + (1 : Int32)) s_p0_table)) ∧ (¬ (s_p0_points (x_1).toNatClampNeg) ≤ x_6 → (vp_in (((45 : Int32) * x_1) + x_5) 270 ∧ (w_X7_has (s_p0_lines ((((45 : Int32) * x_1) + x_5)).toNatClampNeg) x_6 (fun (r_87 : Int32) => ((r_87 = 0 → (w_X7_rank_98 x_1 x_2 x_4 x_5 x_6 (((45 : Int32) * x_5) + x_6) (0 : Int32) s_p0_finding s_p0_findings s_p0_lineCount s_p0_lines s_p0_points s_p0_table K_40 K_50 Q)) ∧ (¬ r_87 = 0 → (w_X7_rank_98 x_1 x_2 x_4 x_5 x_6 (((45 : Int32) * x_5) + x_6) (1 : Int32) s_p0_finding s_p0_findings s_p0_lineCount s_p0_lines s_p0_points s_p0_table K_40 K_50 Q)))))))))
def w_X7_rank_50 (x_1 : Int32) (x_2 : Int32) (x_4 : Int32) (x_5 : Int32) (s_p0_finding : Int32) (s_p0_findings : Nat → Int32) (s_p0_lineCount : Nat → Int32) (s_p0_lines : Nat → Int64) (s_p0_points : Nat → Int32) (K_40 : (Int32) → (Nat → Int32) → Prop) (Q : Int32 → (Int32) → (Nat → Int32) → (Nat → Int32) → Prop) : Nat → (Int32) → (Nat → Int32) → Prop
  | 0 => fun _ _ => False
  | n_ + 1 => w_X7_rank_50s x_1 x_2 x_4 x_5 s_p0_finding s_p0_findings s_p0_lineCount s_p0_lines s_p0_points K_40 Q (w_X7_rank_50 x_1 x_2 x_4 x_5 s_p0_finding s_p0_findings s_p0_lineCount s_p0_lines s_p0_points K_40 Q n_)
def w_X7_rank_40s (x_1 : Int32) (x_2 : Int32) (x_4 : Int32) (s_p0_finding : Int32) (s_p0_findings : Nat → Int32) (s_p0_lineCount : Nat → Int32) (s_p0_lines : Nat → Int64) (s_p0_points : Nat → Int32) (Q : Int32 → (Int32) → (Nat → Int32) → (Nat → Int32) → Prop) (K_40 : (Int32) → (Nat → Int32) → Prop) (x_5 : Int32) (s_p0_table : Nat → Int32) : Prop := ((x_4 ≤ x_5 → (∃ n_, w_X7_rank_117 x_1 x_2 x_4 s_p0_finding s_p0_findings s_p0_lineCount s_p0_lines s_p0_points Q n_ (0 : Int32) (0 : Int32) s_p0_table)) ∧ (¬ x_4 ≤ x_5 → (∃ n_, w_X7_rank_50 x_1 x_2 x_4 x_5 s_p0_finding s_p0_findings s_p0_lineCount s_p0_lines s_p0_points K_40 Q n_ (0 : Int32) s_p0_table)))
def w_X7_rank_40 (x_1 : Int32) (x_2 : Int32) (x_4 : Int32) (s_p0_finding : Int32) (s_p0_findings : Nat → Int32) (s_p0_lineCount : Nat → Int32) (s_p0_lines : Nat → Int64) (s_p0_points : Nat → Int32) (Q : Int32 → (Int32) → (Nat → Int32) → (Nat → Int32) → Prop) : Nat → (Int32) → (Nat → Int32) → Prop
  | 0 => fun _ _ => False
  | n_ + 1 => w_X7_rank_40s x_1 x_2 x_4 s_p0_finding s_p0_findings s_p0_lineCount s_p0_lines s_p0_points Q (w_X7_rank_40 x_1 x_2 x_4 s_p0_finding s_p0_findings s_p0_lineCount s_p0_lines s_p0_points Q n_)
def w_X7_rank_17 (x_1 : Int32) (x_2 : Int32) (s_p0_finding : Int32) (s_p0_findings : Nat → Int32) (s_p0_lineCount : Nat → Int32) (s_p0_lines : Nat → Int64) (s_p0_points : Nat → Int32) (s_p0_table : Nat → Int32) (Q : Int32 → (Int32) → (Nat → Int32) → (Nat → Int32) → Prop) : Prop := (w_X7_looked x_1 s_p0_finding s_p0_findings s_p0_points (fun (r_19 : Int32) (u_19_0 : Int32) (u_19_1 : Nat → Int32) => ((0 ≤ r_19 → (vp_in x_1 6 ∧ (∃ n_, w_X7_rank_40 x_1 x_2 (s_p0_lineCount (x_1).toNatClampNeg) u_19_0 u_19_1 s_p0_lineCount s_p0_lines s_p0_points Q n_ (0 : Int32) s_p0_table))) ∧ (¬ 0 ≤ r_19 → (Q r_19 u_19_0 u_19_1 s_p0_table)))))
def w_X7_rank (x_1 : Int32) (x_2 : Int32) (s_p0_finding : Int32) (s_p0_findings : Nat → Int32) (s_p0_lineCount : Nat → Int32) (s_p0_lines : Nat → Int64) (s_p0_points : Nat → Int32) (s_p0_table : Nat → Int32) (Q : Int32 → (Int32) → (Nat → Int32) → (Nat → Int32) → Prop) : Prop := ((x_2 = (2 : Int32) → (w_X7_rank_17 x_1 x_2 s_p0_finding s_p0_findings s_p0_lineCount s_p0_lines s_p0_points s_p0_table Q)) ∧ (¬ x_2 = (2 : Int32) → ((x_2 = (3 : Int32) → (w_X7_rank_17 x_1 x_2 s_p0_finding s_p0_findings s_p0_lineCount s_p0_lines s_p0_points s_p0_table Q)) ∧ (¬ x_2 = (3 : Int32) → ((x_2 = (5 : Int32) → (w_X7_rank_17 x_1 x_2 s_p0_finding s_p0_findings s_p0_lineCount s_p0_lines s_p0_points s_p0_table Q)) ∧ (¬ x_2 = (5 : Int32) → (Q (-1 : Int32) s_p0_finding s_p0_findings s_p0_table)))))))
-- X7_rank
theorem iX7_rank_X7 : ∀ w ∈ wsX70, w ∈ wsX7_rank := by decide +kernel
set_option maxHeartbeats 4000000 in
set_option maxRecDepth 100000 in
theorem k_X7_rank_209 {E : vE} {T : Nat → ClassId} {o_p0 : Nat} {a_p0 : Nat → Nat} {s_p0_finding : Int32} {s_p0_asked : Int64} {s_p0_newPoints : Int32} {s_p0_newLines : Int32} {s_p0_faultAt : Int64} {s_p0_tries : Int32} {s_p0_things : Int32} {s_p0_goals : Int32} {s_p0_level : Int32} {s_p0_findings : Nat → Int32} {s_p0_lineCount : Nat → Int32} {s_p0_lines : Nat → Int64} {s_p0_points : Nat → Int32} {s_p0_table : Nat → Int32} {x_1 : Int32} {x_2 : Int32} {x_4 : Int32} {x_5 : Int32} {x_6 : Int32} {K_117 : (Int32) → (Int32) → (Nat → Int32) → Prop} {Q : Int32 → (Int32) → (Nat → Int32) → (Nat → Int32) → Prop} (X : vX E cX7_rank 9 RX7 wsX7_rank (vT T) (vr 3 63)) (r : r_X7_rank E T o_p0 a_p0 s_p0_asked s_p0_newPoints s_p0_newLines s_p0_faultAt s_p0_tries s_p0_things s_p0_goals s_p0_level s_p0_lineCount s_p0_lines s_p0_points Q) (hK_117 : ∀ (x_5' : Int32) (x_6' : Int32) (s_p0_table' : Nat → Int32), K_117 x_5' x_6' s_p0_table' → V E 0 0 117 [(0, .ref o_p0), (1, .int x_1), (2, .int x_2), (4, .int x_4), (5, .int x_5'), (6, .int x_6')] [] (cl_X7_rank T o_p0 a_p0 s_p0_finding s_p0_asked s_p0_newPoints s_p0_newLines s_p0_faultAt s_p0_tries s_p0_things s_p0_goals s_p0_level s_p0_findings s_p0_lineCount s_p0_lines s_p0_points s_p0_table')) (h : w_X7_rank_209 x_1 x_2 x_4 x_5 x_6 s_p0_finding s_p0_findings s_p0_lineCount s_p0_lines s_p0_points s_p0_table K_117 Q) : V E 0 0 209 [(0, .ref o_p0), (1, .int x_1), (2, .int x_2), (4, .int x_4), (5, .int x_5), (6, .int x_6)] [] (cl_X7_rank T o_p0 a_p0 s_p0_finding s_p0_asked s_p0_newPoints s_p0_newLines s_p0_faultAt s_p0_tries s_p0_things s_p0_goals s_p0_level s_p0_findings s_p0_lineCount s_p0_lines s_p0_points s_p0_table) := by
  unfold w_X7_rank_209 at h
  refine v_iinc X (v := (x_6 + (1 : Int32))) (lv' := [(6, .int (x_6 + (1 : Int32))), (0, .ref o_p0), (1, .int x_1), (2, .int x_2), (4, .int x_4), (5, .int x_5)]) 5 dX7_rank_209 rfl rfl (by decide) rfl ?_
  refine v_goto X (tgt := 117) dX7_rank_212 (by decide) ?_
  refine v_lv (lv' := [(0, .ref o_p0), (1, .int x_1), (2, .int x_2), (4, .int x_4), (5, .int x_5), (6, .int (x_6 + (1 : Int32)))]) [1, 2, 3, 4, 5, 0] rfl ?_
  exact hK_117 _ _ _ h
set_option maxHeartbeats 4000000 in
set_option maxRecDepth 100000 in
theorem k_X7_rank_182 {E : vE} {T : Nat → ClassId} {o_p0 : Nat} {a_p0 : Nat → Nat} {s_p0_finding : Int32} {s_p0_asked : Int64} {s_p0_newPoints : Int32} {s_p0_newLines : Int32} {s_p0_faultAt : Int64} {s_p0_tries : Int32} {s_p0_things : Int32} {s_p0_goals : Int32} {s_p0_level : Int32} {s_p0_findings : Nat → Int32} {s_p0_lineCount : Nat → Int32} {s_p0_lines : Nat → Int64} {s_p0_points : Nat → Int32} {x_1 : Int32} {x_2 : Int32} {x_4 : Int32} {x_5 : Int32} {x_6 : Int32} {K_117 : (Int32) → (Int32) → (Nat → Int32) → Prop} {Q : Int32 → (Int32) → (Nat → Int32) → (Nat → Int32) → Prop} (X : vX E cX7_rank 9 RX7 wsX7_rank (vT T) (vr 3 63)) (r : r_X7_rank E T o_p0 a_p0 s_p0_asked s_p0_newPoints s_p0_newLines s_p0_faultAt s_p0_tries s_p0_things s_p0_goals s_p0_level s_p0_lineCount s_p0_lines s_p0_points Q) (hK_117 : ∀ (x_5' : Int32) (x_6' : Int32) (s_p0_table' : Nat → Int32), K_117 x_5' x_6' s_p0_table' → V E 0 0 117 [(0, .ref o_p0), (1, .int x_1), (2, .int x_2), (4, .int x_4), (5, .int x_5'), (6, .int x_6')] [] (cl_X7_rank T o_p0 a_p0 s_p0_finding s_p0_asked s_p0_newPoints s_p0_newLines s_p0_faultAt s_p0_tries s_p0_things s_p0_goals s_p0_level s_p0_findings s_p0_lineCount s_p0_lines s_p0_points s_p0_table')) : ∀ (n_ : Nat) (x_8 : Int32) (s_p0_table : Nat → Int32), w_X7_rank_182 x_1 x_2 x_4 x_5 x_6 s_p0_finding s_p0_findings s_p0_lineCount s_p0_lines s_p0_points K_117 Q n_ x_8 s_p0_table → V E 0 0 182 [(0, .ref o_p0), (1, .int x_1), (2, .int x_2), (4, .int x_4), (5, .int x_5), (6, .int x_6), (8, .int x_8)] [] (cl_X7_rank T o_p0 a_p0 s_p0_finding s_p0_asked s_p0_newPoints s_p0_newLines s_p0_faultAt s_p0_tries s_p0_things s_p0_goals s_p0_level s_p0_findings s_p0_lineCount s_p0_lines s_p0_points s_p0_table) := by
  intro n_
  induction n_ with
  | zero => intro x_8 s_p0_table h; exact h.elim
  | succ n_ hK_182 =>
    intro x_8 s_p0_table h
    replace h : w_X7_rank_182s x_1 x_2 x_4 x_5 x_6 s_p0_finding s_p0_findings s_p0_lineCount s_p0_lines s_p0_points K_117 Q (w_X7_rank_182 x_1 x_2 x_4 x_5 x_6 s_p0_finding s_p0_findings s_p0_lineCount s_p0_lines s_p0_points K_117 Q n_) x_8 s_p0_table := h
    unfold w_X7_rank_182s at h
    refine v_iload X 6 dX7_rank_182 rfl ?_
    refine v_iload X 3 dX7_rank_184 rfl ?_
    refine v_icmp_ge X (tgt := 206) dX7_rank_186 (by decide) (fun c_186 => ?_) (fun c_186 => ?_)
    · replace h := h.1 c_186
      refine v_iinc X (v := (x_5 + (1 : Int32))) (lv' := [(5, .int (x_5 + (1 : Int32))), (0, .ref o_p0), (1, .int x_1), (2, .int x_2), (4, .int x_4), (6, .int x_6), (8, .int x_8)]) 4 dX7_rank_206 rfl rfl (by decide) rfl ?_
      refine v_lv (lv' := [(0, .ref o_p0), (1, .int x_1), (2, .int x_2), (4, .int x_4), (5, .int (x_5 + (1 : Int32))), (6, .int x_6)]) [1, 2, 3, 4, 0, 5] rfl ?_
      exact k_X7_rank_209 X r hK_117 h
    · replace h := h.2 c_186
      refine v_aload_n X 0 dX7_rank_189 rfl rfl ?_
      refine v_iload X 6 dX7_rank_190 rfl ?_
      refine v_iload X 4 dX7_rank_192 rfl ?_
      refine v_iload X 5 dX7_rank_194 rfl ?_
      refine v_iload_n X 2 dX7_rank_196 rfl rfl ?_
      refine v_callVv X (As := [.int x_8, .int x_5, .int x_6, .int x_2]) (rest := []) 4 0 (c_X7_clear (l := vl E) (D := vD E) (T := T) (o_p0 := o_p0) (a_p0 := a_p0) (s_p0_finding := s_p0_finding) (s_p0_asked := s_p0_asked) (s_p0_newPoints := s_p0_newPoints) (s_p0_newLines := s_p0_newLines) (s_p0_faultAt := s_p0_faultAt) (s_p0_tries := s_p0_tries) (s_p0_things := s_p0_things) (s_p0_goals := s_p0_goals) (s_p0_level := s_p0_level) (s_p0_table := s_p0_table) (x_1 := x_8) (x_2 := x_5) (x_3 := x_6) (x_4 := x_2) h) gX7_rank_X7_clear rfl rfl (by decide +kernel) ⟨Nat.zero_le _, Nat.zero_le _⟩ ⟨rfl, rfl, by decide, by decide⟩ (Nat.le_of_ble_eq_true rfl) rfl rfl (wr := [vI T (a_p0 1) 6 s_p0_findings, vI T (a_p0 4) 6 s_p0_lineCount, vJ T (a_p0 7) 270 s_p0_lines, vI T (a_p0 3) 6 s_p0_points]) [0, 5] [1, 2, 3, 4] rfl rfl rfl rfl (by decide) rfl dX7_rank_197 (fun u h => ?_)
      obtain ⟨u_197_0, rfl⟩ : ∃ z, z = u := ⟨_, rfl⟩
      refine v_ws (ws' := (cl_X7_rank T o_p0 a_p0 s_p0_finding s_p0_asked s_p0_newPoints s_p0_newLines s_p0_faultAt s_p0_tries s_p0_things s_p0_goals s_p0_level s_p0_findings s_p0_lineCount s_p0_lines s_p0_points u_197_0)) [4, 0, 1, 2, 3, 5] rfl rfl ?_
      refine v_iinc X (v := (x_8 + (1 : Int32))) (lv' := [(8, .int (x_8 + (1 : Int32))), (0, .ref o_p0), (1, .int x_1), (2, .int x_2), (4, .int x_4), (5, .int x_5), (6, .int x_6)]) 6 dX7_rank_200 rfl rfl (by decide) rfl ?_
      refine v_goto X (tgt := 182) dX7_rank_203 (by decide) ?_
      refine v_lv (lv' := [(0, .ref o_p0), (1, .int x_1), (2, .int x_2), (4, .int x_4), (5, .int x_5), (6, .int x_6), (8, .int (x_8 + (1 : Int32)))]) [1, 2, 3, 4, 5, 6, 0] rfl ?_
      exact hK_182 _ _ h
set_option maxHeartbeats 4000000 in
set_option maxRecDepth 100000 in
theorem k_X7_rank_161 {E : vE} {T : Nat → ClassId} {o_p0 : Nat} {a_p0 : Nat → Nat} {s_p0_finding : Int32} {s_p0_asked : Int64} {s_p0_newPoints : Int32} {s_p0_newLines : Int32} {s_p0_faultAt : Int64} {s_p0_tries : Int32} {s_p0_things : Int32} {s_p0_goals : Int32} {s_p0_level : Int32} {s_p0_findings : Nat → Int32} {s_p0_lineCount : Nat → Int32} {s_p0_lines : Nat → Int64} {s_p0_points : Nat → Int32} {s_p0_table : Nat → Int32} {x_1 : Int32} {x_2 : Int32} {x_4 : Int32} {x_5 : Int32} {x_6 : Int32} {x_7 : Int32} {K_117 : (Int32) → (Int32) → (Nat → Int32) → Prop} {Q : Int32 → (Int32) → (Nat → Int32) → (Nat → Int32) → Prop} (X : vX E cX7_rank 9 RX7 wsX7_rank (vT T) (vr 3 63)) (r : r_X7_rank E T o_p0 a_p0 s_p0_asked s_p0_newPoints s_p0_newLines s_p0_faultAt s_p0_tries s_p0_things s_p0_goals s_p0_level s_p0_lineCount s_p0_lines s_p0_points Q) (hK_117 : ∀ (x_5' : Int32) (x_6' : Int32) (s_p0_table' : Nat → Int32), K_117 x_5' x_6' s_p0_table' → V E 0 0 117 [(0, .ref o_p0), (1, .int x_1), (2, .int x_2), (4, .int x_4), (5, .int x_5'), (6, .int x_6')] [] (cl_X7_rank T o_p0 a_p0 s_p0_finding s_p0_asked s_p0_newPoints s_p0_newLines s_p0_faultAt s_p0_tries s_p0_things s_p0_goals s_p0_level s_p0_findings s_p0_lineCount s_p0_lines s_p0_points s_p0_table')) (h : w_X7_rank_161 x_1 x_2 x_4 x_5 x_6 x_7 s_p0_finding s_p0_findings s_p0_lineCount s_p0_lines s_p0_points s_p0_table K_117 Q) : V E 0 0 161 [(0, .ref o_p0), (1, .int x_1), (2, .int x_2), (4, .int x_4), (5, .int x_5), (6, .int x_6), (7, .int x_7)] [] (cl_X7_rank T o_p0 a_p0 s_p0_finding s_p0_asked s_p0_newPoints s_p0_newLines s_p0_faultAt s_p0_tries s_p0_things s_p0_goals s_p0_level s_p0_findings s_p0_lineCount s_p0_lines s_p0_points s_p0_table) := by
  unfold w_X7_rank_161 at h
  refine v_iload X 6 dX7_rank_161 rfl ?_
  refine v_iload X 3 dX7_rank_163 rfl ?_
  refine v_icmp_ge X (tgt := 209) dX7_rank_165 (by decide) (fun c_165 => ?_) (fun c_165 => ?_)
  · replace h := h.1 c_165
    refine v_lv (lv' := [(0, .ref o_p0), (1, .int x_1), (2, .int x_2), (4, .int x_4), (5, .int x_5), (6, .int x_6)]) [0, 1, 2, 3, 4, 5] rfl ?_
    exact k_X7_rank_209 X r hK_117 h
  · replace h := h.2 c_165
    refine v_aload_n X 0 dX7_rank_168 rfl rfl ?_
    refine v_iload X 6 dX7_rank_169 rfl ?_
    refine v_iload X 4 dX7_rank_171 rfl ?_
    refine v_callVv X (As := [.int x_7, .int x_5]) (rest := []) 2 0 (c_X7_swap (l := vl E) (D := vD E) (T := T) (o_p0 := o_p0) (a_p0 := a_p0) (s_p0_finding := s_p0_finding) (s_p0_asked := s_p0_asked) (s_p0_newPoints := s_p0_newPoints) (s_p0_newLines := s_p0_newLines) (s_p0_faultAt := s_p0_faultAt) (s_p0_tries := s_p0_tries) (s_p0_things := s_p0_things) (s_p0_goals := s_p0_goals) (s_p0_level := s_p0_level) (s_p0_table := s_p0_table) (x_1 := x_7) (x_2 := x_5) h) gX7_rank_X7_swap rfl rfl (by decide +kernel) ⟨Nat.zero_le _, Nat.zero_le _⟩ ⟨rfl, rfl, by decide, by decide⟩ (Nat.le_of_ble_eq_true rfl) rfl rfl (wr := [vI T (a_p0 1) 6 s_p0_findings, vI T (a_p0 4) 6 s_p0_lineCount, vJ T (a_p0 7) 270 s_p0_lines, vI T (a_p0 3) 6 s_p0_points]) [0, 5] [1, 2, 3, 4] rfl rfl rfl rfl (by decide) rfl dX7_rank_173 (fun u h => ?_)
    obtain ⟨u_173_0, rfl⟩ : ∃ z, z = u := ⟨_, rfl⟩
    refine v_ws (ws' := (cl_X7_rank T o_p0 a_p0 s_p0_finding s_p0_asked s_p0_newPoints s_p0_newLines s_p0_faultAt s_p0_tries s_p0_things s_p0_goals s_p0_level s_p0_findings s_p0_lineCount s_p0_lines s_p0_points u_173_0)) [4, 0, 1, 2, 3, 5] rfl rfl ?_
    refine v_iload X 4 dX7_rank_176 rfl ?_
    refine v_iconst X dX7_rank_178 (v := (1 : Int32)) (by decide) ?_
    refine v_iadd X dX7_rank_179 ?_
    refine v_istore X (lv' := [(8, .int (x_5 + (1 : Int32))), (0, .ref o_p0), (1, .int x_1), (2, .int x_2), (4, .int x_4), (5, .int x_5), (6, .int x_6), (7, .int x_7)]) dX7_rank_180 (by decide) rfl ?_
    refine v_lv (lv' := [(0, .ref o_p0), (1, .int x_1), (2, .int x_2), (4, .int x_4), (5, .int x_5), (6, .int x_6), (8, .int (x_5 + (1 : Int32)))]) [1, 2, 3, 4, 5, 6, 0] rfl ?_
    obtain ⟨n_, h⟩ := h
    exact k_X7_rank_182 X r hK_117 n_ _ _ h
set_option maxHeartbeats 4000000 in
set_option maxRecDepth 100000 in
theorem k_X7_rank_132 {E : vE} {T : Nat → ClassId} {o_p0 : Nat} {a_p0 : Nat → Nat} {s_p0_finding : Int32} {s_p0_asked : Int64} {s_p0_newPoints : Int32} {s_p0_newLines : Int32} {s_p0_faultAt : Int64} {s_p0_tries : Int32} {s_p0_things : Int32} {s_p0_goals : Int32} {s_p0_level : Int32} {s_p0_findings : Nat → Int32} {s_p0_lineCount : Nat → Int32} {s_p0_lines : Nat → Int64} {s_p0_points : Nat → Int32} {s_p0_table : Nat → Int32} {x_1 : Int32} {x_2 : Int32} {x_4 : Int32} {x_5 : Int32} {x_6 : Int32} {K_117 : (Int32) → (Int32) → (Nat → Int32) → Prop} {Q : Int32 → (Int32) → (Nat → Int32) → (Nat → Int32) → Prop} (X : vX E cX7_rank 9 RX7 wsX7_rank (vT T) (vr 3 63)) (r : r_X7_rank E T o_p0 a_p0 s_p0_asked s_p0_newPoints s_p0_newLines s_p0_faultAt s_p0_tries s_p0_things s_p0_goals s_p0_level s_p0_lineCount s_p0_lines s_p0_points Q) (hK_117 : ∀ (x_5' : Int32) (x_6' : Int32) (s_p0_table' : Nat → Int32), K_117 x_5' x_6' s_p0_table' → V E 0 0 117 [(0, .ref o_p0), (1, .int x_1), (2, .int x_2), (4, .int x_4), (5, .int x_5'), (6, .int x_6')] [] (cl_X7_rank T o_p0 a_p0 s_p0_finding s_p0_asked s_p0_newPoints s_p0_newLines s_p0_faultAt s_p0_tries s_p0_things s_p0_goals s_p0_level s_p0_findings s_p0_lineCount s_p0_lines s_p0_points s_p0_table')) : ∀ (n_ : Nat) (x_7 : Int32), w_X7_rank_132 x_1 x_2 x_4 x_5 x_6 s_p0_finding s_p0_findings s_p0_lineCount s_p0_lines s_p0_points s_p0_table K_117 Q n_ x_7 → V E 0 0 132 [(0, .ref o_p0), (1, .int x_1), (2, .int x_2), (4, .int x_4), (5, .int x_5), (6, .int x_6), (7, .int x_7)] [] (cl_X7_rank T o_p0 a_p0 s_p0_finding s_p0_asked s_p0_newPoints s_p0_newLines s_p0_faultAt s_p0_tries s_p0_things s_p0_goals s_p0_level s_p0_findings s_p0_lineCount s_p0_lines s_p0_points s_p0_table) := by
  intro n_
  induction n_ with
  | zero => intro x_7 h; exact h.elim
  | succ n_ hK_132 =>
    intro x_7 h
    replace h : w_X7_rank_132s x_1 x_2 x_4 x_5 x_6 s_p0_finding s_p0_findings s_p0_lineCount s_p0_lines s_p0_points s_p0_table K_117 Q (w_X7_rank_132 x_1 x_2 x_4 x_5 x_6 s_p0_finding s_p0_findings s_p0_lineCount s_p0_lines s_p0_points s_p0_table K_117 Q n_) x_7 := h
    unfold w_X7_rank_132s at h
    refine v_iload X 6 dX7_rank_132 rfl ?_
    refine v_iload X 3 dX7_rank_134 rfl ?_
    refine v_icmp_ge X (tgt := 161) dX7_rank_136 (by decide) (fun c_136 => ?_) (fun c_136 => ?_)
    · replace h := h.1 c_136
      exact k_X7_rank_161 X r hK_117 h
    · replace h := h.2 c_136
      refine v_aload_n X 0 dX7_rank_139 rfl rfl ?_
      refine v_get X 0 23 (F := TX7) (N := 33) iX7_rank_X7 rfl rfl (by decide) (List.mem_of_getElem? (i := 3) rfl) rfl rfl dX7_rank_140 ?_
      refine v_bipush X dX7_rank_143 (v := (45 : Int32)) (by decide) ?_
      refine v_iload X 6 dX7_rank_145 rfl ?_
      refine v_imul X dX7_rank_147 ?_
      refine v_iload X 5 dX7_rank_148 rfl ?_
      refine v_iadd X dX7_rank_150 ?_
      refine v_iald X 5 0 rfl rfl h.1 dX7_rank_151 ?_
      replace h := h.2
      refine v_if_ne X (tgt := 161) dX7_rank_152 (by decide) (fun c_152 => ?_) (fun c_152 => ?_)
      · replace h := h.1 c_152
        exact k_X7_rank_161 X r hK_117 h
      · replace h := h.2 c_152
        refine v_iinc X (v := (x_7 + (1 : Int32))) (lv' := [(7, .int (x_7 + (1 : Int32))), (0, .ref o_p0), (1, .int x_1), (2, .int x_2), (4, .int x_4), (5, .int x_5), (6, .int x_6)]) 6 dX7_rank_155 rfl rfl (by decide) rfl ?_
        refine v_goto X (tgt := 132) dX7_rank_158 (by decide) ?_
        refine v_lv (lv' := [(0, .ref o_p0), (1, .int x_1), (2, .int x_2), (4, .int x_4), (5, .int x_5), (6, .int x_6), (7, .int (x_7 + (1 : Int32)))]) [1, 2, 3, 4, 5, 6, 0] rfl ?_
        exact hK_132 _ h
set_option maxHeartbeats 4000000 in
set_option maxRecDepth 100000 in
theorem k_X7_rank_117 {E : vE} {T : Nat → ClassId} {o_p0 : Nat} {a_p0 : Nat → Nat} {s_p0_finding : Int32} {s_p0_asked : Int64} {s_p0_newPoints : Int32} {s_p0_newLines : Int32} {s_p0_faultAt : Int64} {s_p0_tries : Int32} {s_p0_things : Int32} {s_p0_goals : Int32} {s_p0_level : Int32} {s_p0_findings : Nat → Int32} {s_p0_lineCount : Nat → Int32} {s_p0_lines : Nat → Int64} {s_p0_points : Nat → Int32} {x_1 : Int32} {x_2 : Int32} {x_4 : Int32} {Q : Int32 → (Int32) → (Nat → Int32) → (Nat → Int32) → Prop} (X : vX E cX7_rank 9 RX7 wsX7_rank (vT T) (vr 3 63)) (r : r_X7_rank E T o_p0 a_p0 s_p0_asked s_p0_newPoints s_p0_newLines s_p0_faultAt s_p0_tries s_p0_things s_p0_goals s_p0_level s_p0_lineCount s_p0_lines s_p0_points Q) : ∀ (n_ : Nat) (x_5 : Int32) (x_6 : Int32) (s_p0_table : Nat → Int32), w_X7_rank_117 x_1 x_2 x_4 s_p0_finding s_p0_findings s_p0_lineCount s_p0_lines s_p0_points Q n_ x_5 x_6 s_p0_table → V E 0 0 117 [(0, .ref o_p0), (1, .int x_1), (2, .int x_2), (4, .int x_4), (5, .int x_5), (6, .int x_6)] [] (cl_X7_rank T o_p0 a_p0 s_p0_finding s_p0_asked s_p0_newPoints s_p0_newLines s_p0_faultAt s_p0_tries s_p0_things s_p0_goals s_p0_level s_p0_findings s_p0_lineCount s_p0_lines s_p0_points s_p0_table) := by
  intro n_
  induction n_ with
  | zero => intro x_5 x_6 s_p0_table h; exact h.elim
  | succ n_ hK_117 =>
    intro x_5 x_6 s_p0_table h
    replace h : w_X7_rank_117s x_1 x_2 x_4 s_p0_finding s_p0_findings s_p0_lineCount s_p0_lines s_p0_points Q (w_X7_rank_117 x_1 x_2 x_4 s_p0_finding s_p0_findings s_p0_lineCount s_p0_lines s_p0_points Q n_) x_5 x_6 s_p0_table := h
    unfold w_X7_rank_117s at h
    refine v_iload X 5 dX7_rank_117 rfl ?_
    refine v_aload_n X 0 dX7_rank_119 rfl rfl ?_
    refine v_get X 0 3 (F := TX7) (N := 33) iX7_rank_X7 rfl rfl (by decide) (List.mem_of_getElem? (i := 2) rfl) rfl rfl dX7_rank_120 ?_
    refine v_iload_n X 1 dX7_rank_123 rfl rfl ?_
    refine v_iald X 4 0 rfl rfl h.1 dX7_rank_124 ?_
    replace h := h.2
    refine v_icmp_ge X (tgt := 215) dX7_rank_125 (by decide) (fun c_125 => ?_) (fun c_125 => ?_)
    · replace h := h.1 c_125
      refine v_iload X 4 dX7_rank_215 rfl ?_
      exact r _ _ _ (s_p0_finding, s_p0_findings, s_p0_table) _ dX7_rank_217 h rfl
    · replace h := h.2 c_125
      refine v_iload X 4 dX7_rank_128 rfl ?_
      refine v_istore X (lv' := [(7, .int x_5), (0, .ref o_p0), (1, .int x_1), (2, .int x_2), (4, .int x_4), (5, .int x_5), (6, .int x_6)]) dX7_rank_130 (by decide) rfl ?_
      refine v_lv (lv' := [(0, .ref o_p0), (1, .int x_1), (2, .int x_2), (4, .int x_4), (5, .int x_5), (6, .int x_6), (7, .int x_5)]) [1, 2, 3, 4, 5, 6, 0] rfl ?_
      obtain ⟨n_, h⟩ := h
      exact k_X7_rank_132 X r hK_117 n_ _ h
set_option maxHeartbeats 4000000 in
set_option maxRecDepth 100000 in
theorem k_X7_rank_98 {E : vE} {T : Nat → ClassId} {o_p0 : Nat} {a_p0 : Nat → Nat} {s_p0_finding : Int32} {s_p0_asked : Int64} {s_p0_newPoints : Int32} {s_p0_newLines : Int32} {s_p0_faultAt : Int64} {s_p0_tries : Int32} {s_p0_things : Int32} {s_p0_goals : Int32} {s_p0_level : Int32} {s_p0_findings : Nat → Int32} {s_p0_lineCount : Nat → Int32} {s_p0_lines : Nat → Int64} {s_p0_points : Nat → Int32} {s_p0_table : Nat → Int32} {x_1 : Int32} {x_2 : Int32} {x_4 : Int32} {x_5 : Int32} {x_6 : Int32} {t_1 : Int32} {t_2 : Int32} {K_40 : (Int32) → (Nat → Int32) → Prop} {K_50 : (Int32) → (Nat → Int32) → Prop} {Q : Int32 → (Int32) → (Nat → Int32) → (Nat → Int32) → Prop} (X : vX E cX7_rank 9 RX7 wsX7_rank (vT T) (vr 3 63)) (r : r_X7_rank E T o_p0 a_p0 s_p0_asked s_p0_newPoints s_p0_newLines s_p0_faultAt s_p0_tries s_p0_things s_p0_goals s_p0_level s_p0_lineCount s_p0_lines s_p0_points Q) (hK_40 : ∀ (x_5' : Int32) (s_p0_table' : Nat → Int32), K_40 x_5' s_p0_table' → V E 0 0 40 [(0, .ref o_p0), (1, .int x_1), (2, .int x_2), (4, .int x_4), (5, .int x_5')] [] (cl_X7_rank T o_p0 a_p0 s_p0_finding s_p0_asked s_p0_newPoints s_p0_newLines s_p0_faultAt s_p0_tries s_p0_things s_p0_goals s_p0_level s_p0_findings s_p0_lineCount s_p0_lines s_p0_points s_p0_table')) (hK_50 : ∀ (x_6' : Int32) (s_p0_table' : Nat → Int32), K_50 x_6' s_p0_table' → V E 0 0 50 [(0, .ref o_p0), (1, .int x_1), (2, .int x_2), (4, .int x_4), (5, .int x_5), (6, .int x_6')] [] (cl_X7_rank T o_p0 a_p0 s_p0_finding s_p0_asked s_p0_newPoints s_p0_newLines s_p0_faultAt s_p0_tries s_p0_things s_p0_goals s_p0_level s_p0_findings s_p0_lineCount s_p0_lines s_p0_points s_p0_table')) (h : w_X7_rank_98 x_1 x_2 x_4 x_5 x_6 t_1 t_2 s_p0_finding s_p0_findings s_p0_lineCount s_p0_lines s_p0_points s_p0_table K_40 K_50 Q) : V E 0 0 98 [(0, .ref o_p0), (1, .int x_1), (2, .int x_2), (4, .int x_4), (5, .int x_5), (6, .int x_6)] [.int t_2, .int t_1, .ref (a_p0 23)] (cl_X7_rank T o_p0 a_p0 s_p0_finding s_p0_asked s_p0_newPoints s_p0_newLines s_p0_faultAt s_p0_tries s_p0_things s_p0_goals s_p0_level s_p0_findings s_p0_lineCount s_p0_lines s_p0_points s_p0_table) := by
  unfold w_X7_rank_98 at h
  refine v_iast X (ws' := (cl_X7_rank T o_p0 a_p0 s_p0_finding s_p0_asked s_p0_newPoints s_p0_newLines s_p0_faultAt s_p0_tries s_p0_things s_p0_goals s_p0_level s_p0_findings s_p0_lineCount s_p0_lines s_p0_points (upd s_p0_table (t_1).toNatClampNeg t_2))) 5 0 rfl rfl h.1 rfl dX7_rank_98 ?_
  replace h := h.2
  refine v_iinc X (v := (x_6 + (1 : Int32))) (lv' := [(6, .int (x_6 + (1 : Int32))), (0, .ref o_p0), (1, .int x_1), (2, .int x_2), (4, .int x_4), (5, .int x_5)]) 5 dX7_rank_99 rfl rfl (by decide) rfl ?_
  refine v_goto X (tgt := 50) dX7_rank_102 (by decide) ?_
  refine v_lv (lv' := [(0, .ref o_p0), (1, .int x_1), (2, .int x_2), (4, .int x_4), (5, .int x_5), (6, .int (x_6 + (1 : Int32)))]) [1, 2, 3, 4, 5, 0] rfl ?_
  exact hK_50 _ _ h
set_option maxHeartbeats 4000000 in
set_option maxRecDepth 100000 in
theorem k_X7_rank_50 {E : vE} {T : Nat → ClassId} {o_p0 : Nat} {a_p0 : Nat → Nat} {s_p0_finding : Int32} {s_p0_asked : Int64} {s_p0_newPoints : Int32} {s_p0_newLines : Int32} {s_p0_faultAt : Int64} {s_p0_tries : Int32} {s_p0_things : Int32} {s_p0_goals : Int32} {s_p0_level : Int32} {s_p0_findings : Nat → Int32} {s_p0_lineCount : Nat → Int32} {s_p0_lines : Nat → Int64} {s_p0_points : Nat → Int32} {x_1 : Int32} {x_2 : Int32} {x_4 : Int32} {x_5 : Int32} {K_40 : (Int32) → (Nat → Int32) → Prop} {Q : Int32 → (Int32) → (Nat → Int32) → (Nat → Int32) → Prop} (X : vX E cX7_rank 9 RX7 wsX7_rank (vT T) (vr 3 63)) (r : r_X7_rank E T o_p0 a_p0 s_p0_asked s_p0_newPoints s_p0_newLines s_p0_faultAt s_p0_tries s_p0_things s_p0_goals s_p0_level s_p0_lineCount s_p0_lines s_p0_points Q) (hK_40 : ∀ (x_5' : Int32) (s_p0_table' : Nat → Int32), K_40 x_5' s_p0_table' → V E 0 0 40 [(0, .ref o_p0), (1, .int x_1), (2, .int x_2), (4, .int x_4), (5, .int x_5')] [] (cl_X7_rank T o_p0 a_p0 s_p0_finding s_p0_asked s_p0_newPoints s_p0_newLines s_p0_faultAt s_p0_tries s_p0_things s_p0_goals s_p0_level s_p0_findings s_p0_lineCount s_p0_lines s_p0_points s_p0_table')) : ∀ (n_ : Nat) (x_6 : Int32) (s_p0_table : Nat → Int32), w_X7_rank_50 x_1 x_2 x_4 x_5 s_p0_finding s_p0_findings s_p0_lineCount s_p0_lines s_p0_points K_40 Q n_ x_6 s_p0_table → V E 0 0 50 [(0, .ref o_p0), (1, .int x_1), (2, .int x_2), (4, .int x_4), (5, .int x_5), (6, .int x_6)] [] (cl_X7_rank T o_p0 a_p0 s_p0_finding s_p0_asked s_p0_newPoints s_p0_newLines s_p0_faultAt s_p0_tries s_p0_things s_p0_goals s_p0_level s_p0_findings s_p0_lineCount s_p0_lines s_p0_points s_p0_table) := by
  intro n_
  induction n_ with
  | zero => intro x_6 s_p0_table h; exact h.elim
  | succ n_ hK_50 =>
    intro x_6 s_p0_table h
    replace h : w_X7_rank_50s x_1 x_2 x_4 x_5 s_p0_finding s_p0_findings s_p0_lineCount s_p0_lines s_p0_points K_40 Q (w_X7_rank_50 x_1 x_2 x_4 x_5 s_p0_finding s_p0_findings s_p0_lineCount s_p0_lines s_p0_points K_40 Q n_) x_6 s_p0_table := h
    unfold w_X7_rank_50s at h
    refine v_iload X 5 dX7_rank_50 rfl ?_
    refine v_aload_n X 0 dX7_rank_52 rfl rfl ?_
    refine v_get X 0 3 (F := TX7) (N := 33) iX7_rank_X7 rfl rfl (by decide) (List.mem_of_getElem? (i := 2) rfl) rfl rfl dX7_rank_53 ?_
    refine v_iload_n X 1 dX7_rank_56 rfl rfl ?_
    refine v_iald X 4 0 rfl rfl h.1 dX7_rank_57 ?_
    replace h := h.2
    refine v_icmp_ge X (tgt := 105) dX7_rank_58 (by decide) (fun c_58 => ?_) (fun c_58 => ?_)
    · replace h := h.1 c_58
      refine v_iinc X (v := (x_5 + (1 : Int32))) (lv' := [(5, .int (x_5 + (1 : Int32))), (0, .ref o_p0), (1, .int x_1), (2, .int x_2), (4, .int x_4), (6, .int x_6)]) 4 dX7_rank_105 rfl rfl (by decide) rfl ?_
      refine v_goto X (tgt := 40) dX7_rank_108 (by decide) ?_
      refine v_lv (lv' := [(0, .ref o_p0), (1, .int x_1), (2, .int x_2), (4, .int x_4), (5, .int (x_5 + (1 : Int32)))]) [1, 2, 3, 4, 0] rfl ?_
      exact hK_40 _ _ h
    · replace h := h.2 c_58
      refine v_aload_n X 0 dX7_rank_61 rfl rfl ?_
      refine v_get X 0 23 (F := TX7) (N := 33) iX7_rank_X7 rfl rfl (by decide) (List.mem_of_getElem? (i := 3) rfl) rfl rfl dX7_rank_62 ?_
      refine v_bipush X dX7_rank_65 (v := (45 : Int32)) (by decide) ?_
      refine v_iload X 4 dX7_rank_67 rfl ?_
      refine v_imul X dX7_rank_69 ?_
      refine v_iload X 5 dX7_rank_70 rfl ?_
      refine v_iadd X dX7_rank_72 ?_
      refine v_aload_n X 0 dX7_rank_73 rfl rfl ?_
      refine v_get X 0 7 (F := TX7) (N := 33) iX7_rank_X7 rfl rfl (by decide) (List.mem_of_getElem? (i := 4) rfl) rfl rfl dX7_rank_74 ?_
      refine v_bipush X dX7_rank_77 (v := (45 : Int32)) (by decide) ?_
      refine v_iload_n X 1 dX7_rank_79 rfl rfl ?_
      refine v_imul X dX7_rank_80 ?_
      refine v_iload X 4 dX7_rank_81 rfl ?_
      refine v_iadd X dX7_rank_83 ?_
      refine v_lald X 3 1 rfl rfl h.1 dX7_rank_84 ?_
      replace h := h.2
      refine v_iload X 5 dX7_rank_85 rfl ?_
      refine v_callSi0 X (As := [.long (s_p0_lines ((((45 : Int32) * x_1) + x_5)).toNatClampNeg), .int x_6]) (rest := [.int (((45 : Int32) * x_5) + x_6), .ref (a_p0 23)]) 2 (c_X7_has (l := vl E) (D := vD E) (T := T) (x_0 := (s_p0_lines ((((45 : Int32) * x_1) + x_5)).toNatClampNeg)) (x_2 := x_6) h) gX7_rank_X7_has rfl rfl (by decide +kernel) ⟨Nat.zero_le _, Nat.zero_le _⟩ ⟨rfl, rfl, by decide, by decide⟩ (Nat.le_of_ble_eq_true rfl) rfl dX7_rank_87 (fun r_87 h => ?_)
      refine v_if_eq X (tgt := 97) dX7_rank_90 (by decide) (fun c_90 => ?_) (fun c_90 => ?_)
      · replace h := h.1 c_90
        refine v_iconst X dX7_rank_97 (v := (0 : Int32)) (by decide) ?_
        exact k_X7_rank_98 X r hK_40 hK_50 h
      · replace h := h.2 c_90
        refine v_iconst X dX7_rank_93 (v := (1 : Int32)) (by decide) ?_
        refine v_goto X (tgt := 98) dX7_rank_94 (by decide) ?_
        exact k_X7_rank_98 X r hK_40 hK_50 h
set_option maxHeartbeats 4000000 in
set_option maxRecDepth 100000 in
theorem k_X7_rank_40 {E : vE} {T : Nat → ClassId} {o_p0 : Nat} {a_p0 : Nat → Nat} {s_p0_finding : Int32} {s_p0_asked : Int64} {s_p0_newPoints : Int32} {s_p0_newLines : Int32} {s_p0_faultAt : Int64} {s_p0_tries : Int32} {s_p0_things : Int32} {s_p0_goals : Int32} {s_p0_level : Int32} {s_p0_findings : Nat → Int32} {s_p0_lineCount : Nat → Int32} {s_p0_lines : Nat → Int64} {s_p0_points : Nat → Int32} {x_1 : Int32} {x_2 : Int32} {x_4 : Int32} {Q : Int32 → (Int32) → (Nat → Int32) → (Nat → Int32) → Prop} (X : vX E cX7_rank 9 RX7 wsX7_rank (vT T) (vr 3 63)) (r : r_X7_rank E T o_p0 a_p0 s_p0_asked s_p0_newPoints s_p0_newLines s_p0_faultAt s_p0_tries s_p0_things s_p0_goals s_p0_level s_p0_lineCount s_p0_lines s_p0_points Q) : ∀ (n_ : Nat) (x_5 : Int32) (s_p0_table : Nat → Int32), w_X7_rank_40 x_1 x_2 x_4 s_p0_finding s_p0_findings s_p0_lineCount s_p0_lines s_p0_points Q n_ x_5 s_p0_table → V E 0 0 40 [(0, .ref o_p0), (1, .int x_1), (2, .int x_2), (4, .int x_4), (5, .int x_5)] [] (cl_X7_rank T o_p0 a_p0 s_p0_finding s_p0_asked s_p0_newPoints s_p0_newLines s_p0_faultAt s_p0_tries s_p0_things s_p0_goals s_p0_level s_p0_findings s_p0_lineCount s_p0_lines s_p0_points s_p0_table) := by
  intro n_
  induction n_ with
  | zero => intro x_5 s_p0_table h; exact h.elim
  | succ n_ hK_40 =>
    intro x_5 s_p0_table h
    replace h : w_X7_rank_40s x_1 x_2 x_4 s_p0_finding s_p0_findings s_p0_lineCount s_p0_lines s_p0_points Q (w_X7_rank_40 x_1 x_2 x_4 s_p0_finding s_p0_findings s_p0_lineCount s_p0_lines s_p0_points Q n_) x_5 s_p0_table := h
    unfold w_X7_rank_40s at h
    refine v_iload X 4 dX7_rank_40 rfl ?_
    refine v_iload X 3 dX7_rank_42 rfl ?_
    refine v_icmp_ge X (tgt := 111) dX7_rank_44 (by decide) (fun c_44 => ?_) (fun c_44 => ?_)
    · replace h := h.1 c_44
      refine v_iconst X dX7_rank_111 (v := (0 : Int32)) (by decide) ?_
      refine v_istore X (lv' := [(5, .int (0 : Int32)), (0, .ref o_p0), (1, .int x_1), (2, .int x_2), (4, .int x_4)]) dX7_rank_112 (by decide) rfl ?_
      refine v_iconst X dX7_rank_114 (v := (0 : Int32)) (by decide) ?_
      refine v_istore X (lv' := [(6, .int (0 : Int32)), (5, .int (0 : Int32)), (0, .ref o_p0), (1, .int x_1), (2, .int x_2), (4, .int x_4)]) dX7_rank_115 (by decide) rfl ?_
      refine v_lv (lv' := [(0, .ref o_p0), (1, .int x_1), (2, .int x_2), (4, .int x_4), (5, .int (0 : Int32)), (6, .int (0 : Int32))]) [2, 3, 4, 5, 1, 0] rfl ?_
      obtain ⟨n_, h⟩ := h
      exact k_X7_rank_117 X r n_ _ _ _ h
    · replace h := h.2 c_44
      refine v_iconst X dX7_rank_47 (v := (0 : Int32)) (by decide) ?_
      refine v_istore X (lv' := [(6, .int (0 : Int32)), (0, .ref o_p0), (1, .int x_1), (2, .int x_2), (4, .int x_4), (5, .int x_5)]) dX7_rank_48 (by decide) rfl ?_
      refine v_lv (lv' := [(0, .ref o_p0), (1, .int x_1), (2, .int x_2), (4, .int x_4), (5, .int x_5), (6, .int (0 : Int32))]) [1, 2, 3, 4, 5, 0] rfl ?_
      obtain ⟨n_, h⟩ := h
      exact k_X7_rank_50 X r hK_40 n_ _ _ h
set_option maxHeartbeats 4000000 in
set_option maxRecDepth 100000 in
theorem k_X7_rank_17 {E : vE} {T : Nat → ClassId} {o_p0 : Nat} {a_p0 : Nat → Nat} {s_p0_finding : Int32} {s_p0_asked : Int64} {s_p0_newPoints : Int32} {s_p0_newLines : Int32} {s_p0_faultAt : Int64} {s_p0_tries : Int32} {s_p0_things : Int32} {s_p0_goals : Int32} {s_p0_level : Int32} {s_p0_findings : Nat → Int32} {s_p0_lineCount : Nat → Int32} {s_p0_lines : Nat → Int64} {s_p0_points : Nat → Int32} {s_p0_table : Nat → Int32} {x_1 : Int32} {x_2 : Int32} {Q : Int32 → (Int32) → (Nat → Int32) → (Nat → Int32) → Prop} (X : vX E cX7_rank 9 RX7 wsX7_rank (vT T) (vr 3 63)) (r : r_X7_rank E T o_p0 a_p0 s_p0_asked s_p0_newPoints s_p0_newLines s_p0_faultAt s_p0_tries s_p0_things s_p0_goals s_p0_level s_p0_lineCount s_p0_lines s_p0_points Q) (h : w_X7_rank_17 x_1 x_2 s_p0_finding s_p0_findings s_p0_lineCount s_p0_lines s_p0_points s_p0_table Q) : V E 0 0 17 [(0, .ref o_p0), (1, .int x_1), (2, .int x_2)] [] (cl_X7_rank T o_p0 a_p0 s_p0_finding s_p0_asked s_p0_newPoints s_p0_newLines s_p0_faultAt s_p0_tries s_p0_things s_p0_goals s_p0_level s_p0_findings s_p0_lineCount s_p0_lines s_p0_points s_p0_table) := by
  unfold w_X7_rank_17 at h
  refine v_aload_n X 0 dX7_rank_17 rfl rfl ?_
  refine v_iload_n X 1 dX7_rank_18 rfl rfl ?_
  refine v_callVi X (As := [.int x_1]) (rest := []) 1 0 (c_X7_looked (l := vl E) (D := vD E) (T := T) (o_p0 := o_p0) (a_p0 := a_p0) (s_p0_finding := s_p0_finding) (s_p0_asked := s_p0_asked) (s_p0_newPoints := s_p0_newPoints) (s_p0_newLines := s_p0_newLines) (s_p0_faultAt := s_p0_faultAt) (s_p0_tries := s_p0_tries) (s_p0_things := s_p0_things) (s_p0_goals := s_p0_goals) (s_p0_level := s_p0_level) (s_p0_findings := s_p0_findings) (s_p0_points := s_p0_points) (x_1 := x_1) h) gX7_rank_X7_looked rfl rfl (by decide +kernel) ⟨Nat.zero_le _, Nat.zero_le _⟩ ⟨rfl, rfl, by decide, by decide⟩ (Nat.le_of_ble_eq_true rfl) rfl rfl (wr := [vI T (a_p0 4) 6 s_p0_lineCount, vJ T (a_p0 7) 270 s_p0_lines, vI T (a_p0 23) 2025 s_p0_table]) [0, 1, 4] [2, 3, 5] rfl rfl rfl rfl (by decide) rfl dX7_rank_19 (fun r_19 u h => ?_)
  obtain ⟨u_19_0, u_19_1⟩ := u
  dsimp only at h
  refine v_ws (ws' := (cl_X7_rank T o_p0 a_p0 u_19_0 s_p0_asked s_p0_newPoints s_p0_newLines s_p0_faultAt s_p0_tries s_p0_things s_p0_goals s_p0_level u_19_1 s_p0_lineCount s_p0_lines s_p0_points s_p0_table)) [3, 4, 0, 1, 5, 2] rfl rfl ?_
  refine v_istore_n X (lv' := [(3, .int r_19), (0, .ref o_p0), (1, .int x_1), (2, .int x_2)]) dX7_rank_22 rfl (by decide) rfl ?_
  refine v_iload_n X 0 dX7_rank_23 rfl rfl ?_
  refine v_if_ge X (tgt := 29) dX7_rank_24 (by decide) (fun c_24 => ?_) (fun c_24 => ?_)
  · replace h := h.1 c_24
    refine v_aload_n X 1 dX7_rank_29 rfl rfl ?_
    refine v_get X 0 4 (F := TX7) (N := 33) iX7_rank_X7 rfl rfl (by decide) (List.mem_of_getElem? (i := 1) rfl) rfl rfl dX7_rank_30 ?_
    refine v_iload_n X 2 dX7_rank_33 rfl rfl ?_
    refine v_iald X 2 0 rfl rfl h.1 dX7_rank_34 ?_
    replace h := h.2
    refine v_istore X (lv' := [(4, .int (s_p0_lineCount (x_1).toNatClampNeg)), (3, .int r_19), (0, .ref o_p0), (1, .int x_1), (2, .int x_2)]) dX7_rank_35 (by decide) rfl ?_
    refine v_iconst X dX7_rank_37 (v := (0 : Int32)) (by decide) ?_
    refine v_istore X (lv' := [(5, .int (0 : Int32)), (4, .int (s_p0_lineCount (x_1).toNatClampNeg)), (3, .int r_19), (0, .ref o_p0), (1, .int x_1), (2, .int x_2)]) dX7_rank_38 (by decide) rfl ?_
    refine v_lv (lv' := [(0, .ref o_p0), (1, .int x_1), (2, .int x_2), (4, .int (s_p0_lineCount (x_1).toNatClampNeg)), (5, .int (0 : Int32))]) [3, 4, 5, 1, 0] rfl ?_
    obtain ⟨n_, h⟩ := h
    exact k_X7_rank_40 X r n_ _ _ h
  · replace h := h.2 c_24
    refine v_iload_n X 0 dX7_rank_27 rfl rfl ?_
    exact r _ _ _ (u_19_0, u_19_1, s_p0_table) _ dX7_rank_28 h rfl
set_option maxHeartbeats 4000000 in
set_option maxRecDepth 100000 in
theorem c_X7_rank {l : Launch} {D : va_G} {T : Nat → ClassId} {o_p0 : Nat} {a_p0 : Nat → Nat} {s_p0_finding : Int32} {s_p0_asked : Int64} {s_p0_newPoints : Int32} {s_p0_newLines : Int32} {s_p0_faultAt : Int64} {s_p0_tries : Int32} {s_p0_things : Int32} {s_p0_goals : Int32} {s_p0_level : Int32} {s_p0_findings : Nat → Int32} {s_p0_lineCount : Nat → Int32} {s_p0_lines : Nat → Int64} {s_p0_points : Nat → Int32} {s_p0_table : Nat → Int32} {x_1 : Int32} {x_2 : Int32} {Q : Int32 → (Int32) → (Nat → Int32) → (Nat → Int32) → Prop} (h : w_X7_rank x_1 x_2 s_p0_finding s_p0_findings s_p0_lineCount s_p0_lines s_p0_points s_p0_table Q) : vCi l D (vT T) yX7_rank wsX7_rank (vr 3 63) [.ref o_p0, .int x_1, .int x_2] (cl_X7_rank T o_p0 a_p0 s_p0_finding s_p0_asked s_p0_newPoints s_p0_newLines s_p0_faultAt s_p0_tries s_p0_things s_p0_goals s_p0_level s_p0_findings s_p0_lineCount s_p0_lines s_p0_points s_p0_table) (fun v (u : (Int32) × (Nat → Int32) × (Nat → Int32)) => Q v u.1 u.2.1 u.2.2) (fun (u : (Int32) × (Nat → Int32) × (Nat → Int32)) => (cl_X7_rank T o_p0 a_p0 u.1 s_p0_asked s_p0_newPoints s_p0_newLines s_p0_faultAt s_p0_tries s_p0_things s_p0_goals s_p0_level u.2.1 s_p0_lineCount s_p0_lines s_p0_points u.2.2)) := by
  refine vC_i (cc := cX7_rank) (nL := 9) (by decide +kernel) rfl ⟨rfl, rfl⟩ (Nat.le_of_ble_eq_true rfl) rfl ?_
  intro E el eD X r
  unfold w_X7_rank at h
  refine v_iload_n X 2 dX7_rank_0 rfl rfl ?_
  refine v_iconst X dX7_rank_1 (v := (2 : Int32)) (by decide) ?_
  refine v_icmp_eq X (tgt := 17) dX7_rank_2 (by decide) (fun c_2 => ?_) (fun c_2 => ?_)
  · replace h := h.1 c_2
    exact k_X7_rank_17 X r h
  · replace h := h.2 c_2
    refine v_iload_n X 2 dX7_rank_5 rfl rfl ?_
    refine v_iconst X dX7_rank_6 (v := (3 : Int32)) (by decide) ?_
    refine v_icmp_eq X (tgt := 17) dX7_rank_7 (by decide) (fun c_7 => ?_) (fun c_7 => ?_)
    · replace h := h.1 c_7
      exact k_X7_rank_17 X r h
    · replace h := h.2 c_7
      refine v_iload_n X 2 dX7_rank_10 rfl rfl ?_
      refine v_iconst X dX7_rank_11 (v := (5 : Int32)) (by decide) ?_
      refine v_icmp_eq X (tgt := 17) dX7_rank_12 (by decide) (fun c_12 => ?_) (fun c_12 => ?_)
      · replace h := h.1 c_12
        exact k_X7_rank_17 X r h
      · replace h := h.2 c_12
        refine v_iconst X dX7_rank_15 (v := (-1 : Int32)) (by decide) ?_
        exact r _ _ _ (s_p0_finding, s_p0_findings, s_p0_table) _ dX7_rank_16 h rfl
-- X7_maySend
abbrev cl_X7_maySend (T : Nat → ClassId) (o_p0 : Nat) (a_p0 : Nat → Nat) (s_p0_finding : Int32) (s_p0_asked : Int64) (s_p0_newPoints : Int32) (s_p0_newLines : Int32) (s_p0_faultAt : Int64) (s_p0_tries : Int32) (s_p0_things : Int32) (s_p0_goals : Int32) (s_p0_level : Int32) (s_p0_degrees : Nat → Int32) (s_p0_goes : Nat → Int32) (s_p0_nears : Nat → Int64) (s_p0_otherDegrees : Nat → Int32) (s_p0_otherNears : Nat → Int64) : va_W := [vO o_p0 4 [.int s_p0_finding, .ref (a_p0 1), .long s_p0_asked, .ref (a_p0 3), .ref (a_p0 4), .ref (a_p0 5), .ref (a_p0 6), .ref (a_p0 7), .int s_p0_newPoints, .int s_p0_newLines, .ref (a_p0 10), .ref (a_p0 11), .long s_p0_faultAt, .int s_p0_tries, .int s_p0_things, .int s_p0_goals, .ref (a_p0 16), .ref (a_p0 17), .ref (a_p0 18), .ref (a_p0 19), .ref (a_p0 20), .ref (a_p0 21), .int s_p0_level, .ref (a_p0 23), .ref (a_p0 24), .ref (a_p0 25), .ref (a_p0 26), .ref (a_p0 27), .ref (a_p0 28), .ref (a_p0 29), .ref (a_p0 30), .ref (a_p0 31), .ref (a_p0 32)], vI T (a_p0 28) 45 s_p0_degrees, vI T (a_p0 25) 46 s_p0_goes, vJ T (a_p0 26) 45 s_p0_nears, vI T (a_p0 29) 45 s_p0_otherDegrees, vJ T (a_p0 27) 45 s_p0_otherNears]
abbrev r_X7_maySend (E : vE) (T : Nat → ClassId) (o_p0 : Nat) (a_p0 : Nat → Nat) (s_p0_finding : Int32) (s_p0_asked : Int64) (s_p0_newPoints : Int32) (s_p0_newLines : Int32) (s_p0_faultAt : Int64) (s_p0_tries : Int32) (s_p0_things : Int32) (s_p0_goals : Int32) (s_p0_level : Int32) (s_p0_degrees : Nat → Int32) (s_p0_goes : Nat → Int32) (s_p0_nears : Nat → Int64) (s_p0_otherDegrees : Nat → Int32) (s_p0_otherNears : Nat → Int64) (Q : Int32 → Prop) : Prop := vRz E cX7_maySend (fun v (u : Unit) => Q v) (fun (u : Unit) => (cl_X7_maySend T o_p0 a_p0 s_p0_finding s_p0_asked s_p0_newPoints s_p0_newLines s_p0_faultAt s_p0_tries s_p0_things s_p0_goals s_p0_level s_p0_degrees s_p0_goes s_p0_nears s_p0_otherDegrees s_p0_otherNears))
def w_X7_maySend_87 (x_3 : Int32) (s_p0_degrees : Nat → Int32) (s_p0_goes : Nat → Int32) (s_p0_nears : Nat → Int64) (s_p0_otherDegrees : Nat → Int32) (s_p0_otherNears : Nat → Int64) (Q : Int32 → Prop) : Prop := (vz x_3 ∧ Q x_3)
def w_X7_maySend_80 (x_1 : Int32) (x_2 : Int32) (x_4 : Int32) (t_0 : Int32) (s_p0_degrees : Nat → Int32) (s_p0_goes : Nat → Int32) (s_p0_nears : Nat → Int64) (s_p0_otherDegrees : Nat → Int32) (s_p0_otherNears : Nat → Int64) (K_24 : (Int32) → (Int32) → Prop) (Q : Int32 → Prop) : Prop := (K_24 t_0 (x_4 + (1 : Int32)))
def w_X7_maySend_79 (x_1 : Int32) (x_2 : Int32) (x_4 : Int32) (s_p0_degrees : Nat → Int32) (s_p0_goes : Nat → Int32) (s_p0_nears : Nat → Int64) (s_p0_otherDegrees : Nat → Int32) (s_p0_otherNears : Nat → Int64) (K_24 : (Int32) → (Int32) → Prop) (Q : Int32 → Prop) : Prop := (w_X7_maySend_80 x_1 x_2 x_4 (0 : Int32) s_p0_degrees s_p0_goes s_p0_nears s_p0_otherDegrees s_p0_otherNears K_24 Q)
def w_X7_maySend_24s (x_1 : Int32) (x_2 : Int32) (s_p0_degrees : Nat → Int32) (s_p0_goes : Nat → Int32) (s_p0_nears : Nat → Int64) (s_p0_otherDegrees : Nat → Int32) (s_p0_otherNears : Nat → Int64) (Q : Int32 → Prop) (K_24 : (Int32) → (Int32) → Prop) (x_3 : Int32) (x_4 : Int32) : Prop := ((x_1 ≤ x_4 → (w_X7_maySend_87 x_3 s_p0_degrees s_p0_goes s_p0_nears s_p0_otherDegrees s_p0_otherNears Q)) ∧ (¬ x_1 ≤ x_4 → ((x_3 = 0 → (w_X7_maySend_87 x_3 s_p0_degrees s_p0_goes s_p0_nears s_p0_otherDegrees s_p0_otherNears Q)) ∧ (¬ x_3 = 0 → (vp_in x_4 46 ∧ (((s_p0_goes (x_4).toNatClampNeg) = x_2 → (w_X7_maySend_79 x_1 x_2 x_4 s_p0_degrees s_p0_goes s_p0_nears s_p0_otherDegrees s_p0_otherNears K_24 Q)) ∧ (¬ (s_p0_goes (x_4).toNatClampNeg) = x_2 → (vp_in x_1 45 ∧ (w_X7_has (s_p0_nears (x_1).toNatClampNeg) x_4 (fun (r_53 : Int32) => (vp_in x_2 45 ∧ (vp_in x_4 46 ∧ (w_X7_has (s_p0_otherNears (x_2).toNatClampNeg) (s_p0_goes (x_4).toNatClampNeg) (fun (r_69 : Int32) => ((¬ r_53 = r_69 → (w_X7_maySend_79 x_1 x_2 x_4 s_p0_degrees s_p0_goes s_p0_nears s_p0_otherDegrees s_p0_otherNears K_24 Q)) ∧ (r_53 = r_69 → (w_X7_maySend_80 x_1 x_2 x_4 (1 : Int32) s_p0_degrees s_p0_goes s_p0_nears s_p0_otherDegrees s_p0_otherNears K_24 Q)))))))))))))))))
def w_X7_maySend_24 (x_1 : Int32) (x_2 : Int32) (s_p0_degrees : Nat → Int32) (s_p0_goes : Nat → Int32) (s_p0_nears : Nat → Int64) (s_p0_otherDegrees : Nat → Int32) (s_p0_otherNears : Nat → Int64) (Q : Int32 → Prop) : Nat → (Int32) → (Int32) → Prop
  | 0 => fun _ _ => False
  | n_ + 1 => w_X7_maySend_24s x_1 x_2 s_p0_degrees s_p0_goes s_p0_nears s_p0_otherDegrees s_p0_otherNears Q (w_X7_maySend_24 x_1 x_2 s_p0_degrees s_p0_goes s_p0_nears s_p0_otherDegrees s_p0_otherNears Q n_)
def w_X7_maySend_20 (x_1 : Int32) (x_2 : Int32) (t_0 : Int32) (s_p0_degrees : Nat → Int32) (s_p0_goes : Nat → Int32) (s_p0_nears : Nat → Int64) (s_p0_otherDegrees : Nat → Int32) (s_p0_otherNears : Nat → Int64) (Q : Int32 → Prop) : Prop := (∃ n_, w_X7_maySend_24 x_1 x_2 s_p0_degrees s_p0_goes s_p0_nears s_p0_otherDegrees s_p0_otherNears Q n_ t_0 (0 : Int32))
def w_X7_maySend (x_1 : Int32) (x_2 : Int32) (s_p0_degrees : Nat → Int32) (s_p0_goes : Nat → Int32) (s_p0_nears : Nat → Int64) (s_p0_otherDegrees : Nat → Int32) (s_p0_otherNears : Nat → Int64) (Q : Int32 → Prop) : Prop := (vp_in x_1 45 ∧ (vp_in x_2 45 ∧ ((¬ (s_p0_degrees (x_1).toNatClampNeg) = (s_p0_otherDegrees (x_2).toNatClampNeg) → (w_X7_maySend_20 x_1 x_2 (0 : Int32) s_p0_degrees s_p0_goes s_p0_nears s_p0_otherDegrees s_p0_otherNears Q)) ∧ ((s_p0_degrees (x_1).toNatClampNeg) = (s_p0_otherDegrees (x_2).toNatClampNeg) → (w_X7_maySend_20 x_1 x_2 (1 : Int32) s_p0_degrees s_p0_goes s_p0_nears s_p0_otherDegrees s_p0_otherNears Q)))))
-- X7_maySend
theorem iX7_maySend_X7 : ∀ w ∈ wsX70, w ∈ wsX7_maySend := by decide +kernel
set_option maxHeartbeats 4000000 in
set_option maxRecDepth 100000 in
theorem k_X7_maySend_87 {E : vE} {T : Nat → ClassId} {o_p0 : Nat} {a_p0 : Nat → Nat} {s_p0_finding : Int32} {s_p0_asked : Int64} {s_p0_newPoints : Int32} {s_p0_newLines : Int32} {s_p0_faultAt : Int64} {s_p0_tries : Int32} {s_p0_things : Int32} {s_p0_goals : Int32} {s_p0_level : Int32} {s_p0_degrees : Nat → Int32} {s_p0_goes : Nat → Int32} {s_p0_nears : Nat → Int64} {s_p0_otherDegrees : Nat → Int32} {s_p0_otherNears : Nat → Int64} {x_3 : Int32} {Q : Int32 → Prop} (X : vX E cX7_maySend 5 RX7 wsX7_maySend (vT T) (vr 1 22)) (r : r_X7_maySend E T o_p0 a_p0 s_p0_finding s_p0_asked s_p0_newPoints s_p0_newLines s_p0_faultAt s_p0_tries s_p0_things s_p0_goals s_p0_level s_p0_degrees s_p0_goes s_p0_nears s_p0_otherDegrees s_p0_otherNears Q) (h : w_X7_maySend_87 x_3 s_p0_degrees s_p0_goes s_p0_nears s_p0_otherDegrees s_p0_otherNears Q) : V E 0 0 87 [(3, .int x_3)] [] (cl_X7_maySend T o_p0 a_p0 s_p0_finding s_p0_asked s_p0_newPoints s_p0_newLines s_p0_faultAt s_p0_tries s_p0_things s_p0_goals s_p0_level s_p0_degrees s_p0_goes s_p0_nears s_p0_otherDegrees s_p0_otherNears) := by
  unfold w_X7_maySend_87 at h
  refine v_iload_n X 0 dX7_maySend_87 rfl rfl ?_
  exact r _ _ _ () _ dX7_maySend_88 h.1 h.2 rfl
set_option maxHeartbeats 4000000 in
set_option maxRecDepth 100000 in
theorem k_X7_maySend_80 {E : vE} {T : Nat → ClassId} {o_p0 : Nat} {a_p0 : Nat → Nat} {s_p0_finding : Int32} {s_p0_asked : Int64} {s_p0_newPoints : Int32} {s_p0_newLines : Int32} {s_p0_faultAt : Int64} {s_p0_tries : Int32} {s_p0_things : Int32} {s_p0_goals : Int32} {s_p0_level : Int32} {s_p0_degrees : Nat → Int32} {s_p0_goes : Nat → Int32} {s_p0_nears : Nat → Int64} {s_p0_otherDegrees : Nat → Int32} {s_p0_otherNears : Nat → Int64} {x_1 : Int32} {x_2 : Int32} {x_4 : Int32} {t_0 : Int32} {K_24 : (Int32) → (Int32) → Prop} {Q : Int32 → Prop} (X : vX E cX7_maySend 5 RX7 wsX7_maySend (vT T) (vr 1 22)) (r : r_X7_maySend E T o_p0 a_p0 s_p0_finding s_p0_asked s_p0_newPoints s_p0_newLines s_p0_faultAt s_p0_tries s_p0_things s_p0_goals s_p0_level s_p0_degrees s_p0_goes s_p0_nears s_p0_otherDegrees s_p0_otherNears Q) (hK_24 : ∀ (x_3' : Int32) (x_4' : Int32), K_24 x_3' x_4' → V E 0 0 24 [(0, .ref o_p0), (1, .int x_1), (2, .int x_2), (3, .int x_3'), (4, .int x_4')] [] (cl_X7_maySend T o_p0 a_p0 s_p0_finding s_p0_asked s_p0_newPoints s_p0_newLines s_p0_faultAt s_p0_tries s_p0_things s_p0_goals s_p0_level s_p0_degrees s_p0_goes s_p0_nears s_p0_otherDegrees s_p0_otherNears)) (h : w_X7_maySend_80 x_1 x_2 x_4 t_0 s_p0_degrees s_p0_goes s_p0_nears s_p0_otherDegrees s_p0_otherNears K_24 Q) : V E 0 0 80 [(0, .ref o_p0), (1, .int x_1), (2, .int x_2), (4, .int x_4)] [.int t_0] (cl_X7_maySend T o_p0 a_p0 s_p0_finding s_p0_asked s_p0_newPoints s_p0_newLines s_p0_faultAt s_p0_tries s_p0_things s_p0_goals s_p0_level s_p0_degrees s_p0_goes s_p0_nears s_p0_otherDegrees s_p0_otherNears) := by
  unfold w_X7_maySend_80 at h
  refine v_istore_n X (lv' := [(3, .int t_0), (0, .ref o_p0), (1, .int x_1), (2, .int x_2), (4, .int x_4)]) dX7_maySend_80 rfl (by decide) rfl ?_
  refine v_iinc X (v := (x_4 + (1 : Int32))) (lv' := [(4, .int (x_4 + (1 : Int32))), (3, .int t_0), (0, .ref o_p0), (1, .int x_1), (2, .int x_2)]) 4 dX7_maySend_81 rfl rfl (by decide) rfl ?_
  refine v_goto X (tgt := 24) dX7_maySend_84 (by decide) ?_
  refine v_lv (lv' := [(0, .ref o_p0), (1, .int x_1), (2, .int x_2), (3, .int t_0), (4, .int (x_4 + (1 : Int32)))]) [2, 3, 4, 1, 0] rfl ?_
  exact hK_24 _ _ h
set_option maxHeartbeats 4000000 in
set_option maxRecDepth 100000 in
theorem k_X7_maySend_79 {E : vE} {T : Nat → ClassId} {o_p0 : Nat} {a_p0 : Nat → Nat} {s_p0_finding : Int32} {s_p0_asked : Int64} {s_p0_newPoints : Int32} {s_p0_newLines : Int32} {s_p0_faultAt : Int64} {s_p0_tries : Int32} {s_p0_things : Int32} {s_p0_goals : Int32} {s_p0_level : Int32} {s_p0_degrees : Nat → Int32} {s_p0_goes : Nat → Int32} {s_p0_nears : Nat → Int64} {s_p0_otherDegrees : Nat → Int32} {s_p0_otherNears : Nat → Int64} {x_1 : Int32} {x_2 : Int32} {x_4 : Int32} {K_24 : (Int32) → (Int32) → Prop} {Q : Int32 → Prop} (X : vX E cX7_maySend 5 RX7 wsX7_maySend (vT T) (vr 1 22)) (r : r_X7_maySend E T o_p0 a_p0 s_p0_finding s_p0_asked s_p0_newPoints s_p0_newLines s_p0_faultAt s_p0_tries s_p0_things s_p0_goals s_p0_level s_p0_degrees s_p0_goes s_p0_nears s_p0_otherDegrees s_p0_otherNears Q) (hK_24 : ∀ (x_3' : Int32) (x_4' : Int32), K_24 x_3' x_4' → V E 0 0 24 [(0, .ref o_p0), (1, .int x_1), (2, .int x_2), (3, .int x_3'), (4, .int x_4')] [] (cl_X7_maySend T o_p0 a_p0 s_p0_finding s_p0_asked s_p0_newPoints s_p0_newLines s_p0_faultAt s_p0_tries s_p0_things s_p0_goals s_p0_level s_p0_degrees s_p0_goes s_p0_nears s_p0_otherDegrees s_p0_otherNears)) (h : w_X7_maySend_79 x_1 x_2 x_4 s_p0_degrees s_p0_goes s_p0_nears s_p0_otherDegrees s_p0_otherNears K_24 Q) : V E 0 0 79 [(0, .ref o_p0), (1, .int x_1), (2, .int x_2), (4, .int x_4)] [] (cl_X7_maySend T o_p0 a_p0 s_p0_finding s_p0_asked s_p0_newPoints s_p0_newLines s_p0_faultAt s_p0_tries s_p0_things s_p0_goals s_p0_level s_p0_degrees s_p0_goes s_p0_nears s_p0_otherDegrees s_p0_otherNears) := by
  unfold w_X7_maySend_79 at h
  refine v_iconst X dX7_maySend_79 (v := (0 : Int32)) (by decide) ?_
  exact k_X7_maySend_80 X r hK_24 h
set_option maxHeartbeats 4000000 in
set_option maxRecDepth 100000 in
theorem k_X7_maySend_24 {E : vE} {T : Nat → ClassId} {o_p0 : Nat} {a_p0 : Nat → Nat} {s_p0_finding : Int32} {s_p0_asked : Int64} {s_p0_newPoints : Int32} {s_p0_newLines : Int32} {s_p0_faultAt : Int64} {s_p0_tries : Int32} {s_p0_things : Int32} {s_p0_goals : Int32} {s_p0_level : Int32} {s_p0_degrees : Nat → Int32} {s_p0_goes : Nat → Int32} {s_p0_nears : Nat → Int64} {s_p0_otherDegrees : Nat → Int32} {s_p0_otherNears : Nat → Int64} {x_1 : Int32} {x_2 : Int32} {Q : Int32 → Prop} (X : vX E cX7_maySend 5 RX7 wsX7_maySend (vT T) (vr 1 22)) (r : r_X7_maySend E T o_p0 a_p0 s_p0_finding s_p0_asked s_p0_newPoints s_p0_newLines s_p0_faultAt s_p0_tries s_p0_things s_p0_goals s_p0_level s_p0_degrees s_p0_goes s_p0_nears s_p0_otherDegrees s_p0_otherNears Q) : ∀ (n_ : Nat) (x_3 : Int32) (x_4 : Int32), w_X7_maySend_24 x_1 x_2 s_p0_degrees s_p0_goes s_p0_nears s_p0_otherDegrees s_p0_otherNears Q n_ x_3 x_4 → V E 0 0 24 [(0, .ref o_p0), (1, .int x_1), (2, .int x_2), (3, .int x_3), (4, .int x_4)] [] (cl_X7_maySend T o_p0 a_p0 s_p0_finding s_p0_asked s_p0_newPoints s_p0_newLines s_p0_faultAt s_p0_tries s_p0_things s_p0_goals s_p0_level s_p0_degrees s_p0_goes s_p0_nears s_p0_otherDegrees s_p0_otherNears) := by
  intro n_
  induction n_ with
  | zero => intro x_3 x_4 h; exact h.elim
  | succ n_ hK_24 =>
    intro x_3 x_4 h
    replace h : w_X7_maySend_24s x_1 x_2 s_p0_degrees s_p0_goes s_p0_nears s_p0_otherDegrees s_p0_otherNears Q (w_X7_maySend_24 x_1 x_2 s_p0_degrees s_p0_goes s_p0_nears s_p0_otherDegrees s_p0_otherNears Q n_) x_3 x_4 := h
    unfold w_X7_maySend_24s at h
    refine v_iload X 4 dX7_maySend_24 rfl ?_
    refine v_iload_n X 1 dX7_maySend_26 rfl rfl ?_
    refine v_icmp_ge X (tgt := 87) dX7_maySend_27 (by decide) (fun c_27 => ?_) (fun c_27 => ?_)
    · replace h := h.1 c_27
      refine v_lv (lv' := [(3, .int x_3)]) [3] rfl ?_
      exact k_X7_maySend_87 X r h
    · replace h := h.2 c_27
      refine v_iload_n X 3 dX7_maySend_30 rfl rfl ?_
      refine v_if_eq X (tgt := 87) dX7_maySend_31 (by decide) (fun c_31 => ?_) (fun c_31 => ?_)
      · replace h := h.1 c_31
        refine v_lv (lv' := [(3, .int x_3)]) [3] rfl ?_
        exact k_X7_maySend_87 X r h
      · replace h := h.2 c_31
        refine v_aload_n X 0 dX7_maySend_34 rfl rfl ?_
        refine v_get X 0 25 (F := TX7) (N := 33) iX7_maySend_X7 rfl rfl (by decide) (List.mem_of_getElem? (i := 3) rfl) rfl rfl dX7_maySend_35 ?_
        refine v_iload X 4 dX7_maySend_38 rfl ?_
        refine v_iald X 2 0 rfl rfl h.1 dX7_maySend_40 ?_
        replace h := h.2
        refine v_iload_n X 2 dX7_maySend_41 rfl rfl ?_
        refine v_icmp_eq X (tgt := 79) dX7_maySend_42 (by decide) (fun c_42 => ?_) (fun c_42 => ?_)
        · replace h := h.1 c_42
          refine v_lv (lv' := [(0, .ref o_p0), (1, .int x_1), (2, .int x_2), (4, .int x_4)]) [0, 1, 2, 4] rfl ?_
          exact k_X7_maySend_79 X r hK_24 h
        · replace h := h.2 c_42
          refine v_aload_n X 0 dX7_maySend_45 rfl rfl ?_
          refine v_get X 0 26 (F := TX7) (N := 33) iX7_maySend_X7 rfl rfl (by decide) (List.mem_of_getElem? (i := 4) rfl) rfl rfl dX7_maySend_46 ?_
          refine v_iload_n X 1 dX7_maySend_49 rfl rfl ?_
          refine v_lald X 3 1 rfl rfl h.1 dX7_maySend_50 ?_
          replace h := h.2
          refine v_iload X 4 dX7_maySend_51 rfl ?_
          refine v_callSi0 X (As := [.long (s_p0_nears (x_1).toNatClampNeg), .int x_4]) (rest := []) 2 (c_X7_has (l := vl E) (D := vD E) (T := T) (x_0 := (s_p0_nears (x_1).toNatClampNeg)) (x_2 := x_4) h) gX7_maySend_X7_has rfl rfl (by decide +kernel) ⟨Nat.zero_le _, Nat.zero_le _⟩ ⟨rfl, rfl, by decide, by decide⟩ (Nat.le_of_ble_eq_true rfl) rfl dX7_maySend_53 (fun r_53 h => ?_)
          refine v_aload_n X 0 dX7_maySend_56 rfl rfl ?_
          refine v_get X 0 27 (F := TX7) (N := 33) iX7_maySend_X7 rfl rfl (by decide) (List.mem_of_getElem? (i := 5) rfl) rfl rfl dX7_maySend_57 ?_
          refine v_iload_n X 2 dX7_maySend_60 rfl rfl ?_
          refine v_lald X 5 1 rfl rfl h.1 dX7_maySend_61 ?_
          replace h := h.2
          refine v_aload_n X 0 dX7_maySend_62 rfl rfl ?_
          refine v_get X 0 25 (F := TX7) (N := 33) iX7_maySend_X7 rfl rfl (by decide) (List.mem_of_getElem? (i := 3) rfl) rfl rfl dX7_maySend_63 ?_
          refine v_iload X 4 dX7_maySend_66 rfl ?_
          refine v_iald X 2 0 rfl rfl h.1 dX7_maySend_68 ?_
          replace h := h.2
          refine v_callSi0 X (As := [.long (s_p0_otherNears (x_2).toNatClampNeg), .int (s_p0_goes (x_4).toNatClampNeg)]) (rest := [.int r_53]) 2 (c_X7_has (l := vl E) (D := vD E) (T := T) (x_0 := (s_p0_otherNears (x_2).toNatClampNeg)) (x_2 := (s_p0_goes (x_4).toNatClampNeg)) h) gX7_maySend_X7_has rfl rfl (by decide +kernel) ⟨Nat.zero_le _, Nat.zero_le _⟩ ⟨rfl, rfl, by decide, by decide⟩ (Nat.le_of_ble_eq_true rfl) rfl dX7_maySend_69 (fun r_69 h => ?_)
          refine v_icmp_ne X (tgt := 79) dX7_maySend_72 (by decide) (fun c_72 => ?_) (fun c_72 => ?_)
          · replace h := h.1 c_72
            refine v_lv (lv' := [(0, .ref o_p0), (1, .int x_1), (2, .int x_2), (4, .int x_4)]) [0, 1, 2, 4] rfl ?_
            exact k_X7_maySend_79 X r hK_24 h
          · replace h := h.2 c_72
            refine v_iconst X dX7_maySend_75 (v := (1 : Int32)) (by decide) ?_
            refine v_goto X (tgt := 80) dX7_maySend_76 (by decide) ?_
            refine v_lv (lv' := [(0, .ref o_p0), (1, .int x_1), (2, .int x_2), (4, .int x_4)]) [0, 1, 2, 4] rfl ?_
            exact k_X7_maySend_80 X r hK_24 h
set_option maxHeartbeats 4000000 in
set_option maxRecDepth 100000 in
theorem k_X7_maySend_20 {E : vE} {T : Nat → ClassId} {o_p0 : Nat} {a_p0 : Nat → Nat} {s_p0_finding : Int32} {s_p0_asked : Int64} {s_p0_newPoints : Int32} {s_p0_newLines : Int32} {s_p0_faultAt : Int64} {s_p0_tries : Int32} {s_p0_things : Int32} {s_p0_goals : Int32} {s_p0_level : Int32} {s_p0_degrees : Nat → Int32} {s_p0_goes : Nat → Int32} {s_p0_nears : Nat → Int64} {s_p0_otherDegrees : Nat → Int32} {s_p0_otherNears : Nat → Int64} {x_1 : Int32} {x_2 : Int32} {t_0 : Int32} {Q : Int32 → Prop} (X : vX E cX7_maySend 5 RX7 wsX7_maySend (vT T) (vr 1 22)) (r : r_X7_maySend E T o_p0 a_p0 s_p0_finding s_p0_asked s_p0_newPoints s_p0_newLines s_p0_faultAt s_p0_tries s_p0_things s_p0_goals s_p0_level s_p0_degrees s_p0_goes s_p0_nears s_p0_otherDegrees s_p0_otherNears Q) (h : w_X7_maySend_20 x_1 x_2 t_0 s_p0_degrees s_p0_goes s_p0_nears s_p0_otherDegrees s_p0_otherNears Q) : V E 0 0 20 [(0, .ref o_p0), (1, .int x_1), (2, .int x_2)] [.int t_0] (cl_X7_maySend T o_p0 a_p0 s_p0_finding s_p0_asked s_p0_newPoints s_p0_newLines s_p0_faultAt s_p0_tries s_p0_things s_p0_goals s_p0_level s_p0_degrees s_p0_goes s_p0_nears s_p0_otherDegrees s_p0_otherNears) := by
  unfold w_X7_maySend_20 at h
  refine v_istore_n X (lv' := [(3, .int t_0), (0, .ref o_p0), (1, .int x_1), (2, .int x_2)]) dX7_maySend_20 rfl (by decide) rfl ?_
  refine v_iconst X dX7_maySend_21 (v := (0 : Int32)) (by decide) ?_
  refine v_istore X (lv' := [(4, .int (0 : Int32)), (3, .int t_0), (0, .ref o_p0), (1, .int x_1), (2, .int x_2)]) dX7_maySend_22 (by decide) rfl ?_
  refine v_lv (lv' := [(0, .ref o_p0), (1, .int x_1), (2, .int x_2), (3, .int t_0), (4, .int (0 : Int32))]) [2, 3, 4, 1, 0] rfl ?_
  obtain ⟨n_, h⟩ := h
  exact k_X7_maySend_24 X r n_ _ _ h
set_option maxHeartbeats 4000000 in
set_option maxRecDepth 100000 in
theorem c_X7_maySend {l : Launch} {D : va_G} {T : Nat → ClassId} {o_p0 : Nat} {a_p0 : Nat → Nat} {s_p0_finding : Int32} {s_p0_asked : Int64} {s_p0_newPoints : Int32} {s_p0_newLines : Int32} {s_p0_faultAt : Int64} {s_p0_tries : Int32} {s_p0_things : Int32} {s_p0_goals : Int32} {s_p0_level : Int32} {s_p0_degrees : Nat → Int32} {s_p0_goes : Nat → Int32} {s_p0_nears : Nat → Int64} {s_p0_otherDegrees : Nat → Int32} {s_p0_otherNears : Nat → Int64} {x_1 : Int32} {x_2 : Int32} {Q : Int32 → Prop} (h : w_X7_maySend x_1 x_2 s_p0_degrees s_p0_goes s_p0_nears s_p0_otherDegrees s_p0_otherNears Q) : vCi l D (vT T) yX7_maySend wsX7_maySend (vr 1 22) [.ref o_p0, .int x_1, .int x_2] (cl_X7_maySend T o_p0 a_p0 s_p0_finding s_p0_asked s_p0_newPoints s_p0_newLines s_p0_faultAt s_p0_tries s_p0_things s_p0_goals s_p0_level s_p0_degrees s_p0_goes s_p0_nears s_p0_otherDegrees s_p0_otherNears) (fun v (u : Unit) => Q v) (fun (u : Unit) => (cl_X7_maySend T o_p0 a_p0 s_p0_finding s_p0_asked s_p0_newPoints s_p0_newLines s_p0_faultAt s_p0_tries s_p0_things s_p0_goals s_p0_level s_p0_degrees s_p0_goes s_p0_nears s_p0_otherDegrees s_p0_otherNears)) := by
  refine vC_z (cc := cX7_maySend) (nL := 5) (by decide +kernel) rfl ⟨rfl, rfl⟩ (Nat.le_of_ble_eq_true rfl) rfl ?_
  intro E el eD X r
  unfold w_X7_maySend at h
  refine v_aload_n X 0 dX7_maySend_0 rfl rfl ?_
  refine v_get X 0 28 (F := TX7) (N := 33) iX7_maySend_X7 rfl rfl (by decide) (List.mem_of_getElem? (i := 1) rfl) rfl rfl dX7_maySend_1 ?_
  refine v_iload_n X 1 dX7_maySend_4 rfl rfl ?_
  refine v_iald X 1 0 rfl rfl h.1 dX7_maySend_5 ?_
  replace h := h.2
  refine v_aload_n X 0 dX7_maySend_6 rfl rfl ?_
  refine v_get X 0 29 (F := TX7) (N := 33) iX7_maySend_X7 rfl rfl (by decide) (List.mem_of_getElem? (i := 2) rfl) rfl rfl dX7_maySend_7 ?_
  refine v_iload_n X 2 dX7_maySend_10 rfl rfl ?_
  refine v_iald X 4 0 rfl rfl h.1 dX7_maySend_11 ?_
  replace h := h.2
  refine v_icmp_ne X (tgt := 19) dX7_maySend_12 (by decide) (fun c_12 => ?_) (fun c_12 => ?_)
  · replace h := h.1 c_12
    refine v_iconst X dX7_maySend_19 (v := (0 : Int32)) (by decide) ?_
    exact k_X7_maySend_20 X r h
  · replace h := h.2 c_12
    refine v_iconst X dX7_maySend_15 (v := (1 : Int32)) (by decide) ?_
    refine v_goto X (tgt := 20) dX7_maySend_16 (by decide) ?_
    exact k_X7_maySend_20 X r h
-- X7_isSent
abbrev cl_X7_isSent (T : Nat → ClassId) (o_p0 : Nat) (a_p0 : Nat → Nat) (s_p0_finding : Int32) (s_p0_asked : Int64) (s_p0_newPoints : Int32) (s_p0_newLines : Int32) (s_p0_faultAt : Int64) (s_p0_tries : Int32) (s_p0_things : Int32) (s_p0_goals : Int32) (s_p0_level : Int32) (s_p0_goes : Nat → Int32) (s_p0_lineCount : Nat → Int32) (s_p0_lines : Nat → Int64) (s_p0_points : Nat → Int32) : va_W := [vO o_p0 4 [.int s_p0_finding, .ref (a_p0 1), .long s_p0_asked, .ref (a_p0 3), .ref (a_p0 4), .ref (a_p0 5), .ref (a_p0 6), .ref (a_p0 7), .int s_p0_newPoints, .int s_p0_newLines, .ref (a_p0 10), .ref (a_p0 11), .long s_p0_faultAt, .int s_p0_tries, .int s_p0_things, .int s_p0_goals, .ref (a_p0 16), .ref (a_p0 17), .ref (a_p0 18), .ref (a_p0 19), .ref (a_p0 20), .ref (a_p0 21), .int s_p0_level, .ref (a_p0 23), .ref (a_p0 24), .ref (a_p0 25), .ref (a_p0 26), .ref (a_p0 27), .ref (a_p0 28), .ref (a_p0 29), .ref (a_p0 30), .ref (a_p0 31), .ref (a_p0 32)], vI T (a_p0 25) 46 s_p0_goes, vI T (a_p0 4) 6 s_p0_lineCount, vJ T (a_p0 7) 270 s_p0_lines, vI T (a_p0 3) 6 s_p0_points]
abbrev r_X7_isSent (E : vE) (T : Nat → ClassId) (o_p0 : Nat) (a_p0 : Nat → Nat) (s_p0_finding : Int32) (s_p0_asked : Int64) (s_p0_newPoints : Int32) (s_p0_newLines : Int32) (s_p0_faultAt : Int64) (s_p0_tries : Int32) (s_p0_things : Int32) (s_p0_goals : Int32) (s_p0_level : Int32) (s_p0_goes : Nat → Int32) (s_p0_lineCount : Nat → Int32) (s_p0_lines : Nat → Int64) (s_p0_points : Nat → Int32) (Q : Int32 → Prop) : Prop := vRz E cX7_isSent (fun v (u : Unit) => Q v) (fun (u : Unit) => (cl_X7_isSent T o_p0 a_p0 s_p0_finding s_p0_asked s_p0_newPoints s_p0_newLines s_p0_faultAt s_p0_tries s_p0_things s_p0_goals s_p0_level s_p0_goes s_p0_lineCount s_p0_lines s_p0_points))
def w_X7_isSent_123 (x_1 : Int32) (x_2 : Int32) (x_3 : Int32) (x_4 : Int64) (x_6 : Int32) (x_9 : Int32) (s_p0_goes : Nat → Int32) (s_p0_lineCount : Nat → Int32) (s_p0_lines : Nat → Int64) (s_p0_points : Nat → Int32) (K_13 : (Int64) → (Int32) → Prop) (Q : Int32 → Prop) : Prop := ((¬ x_9 = x_3 → (K_13 (x_4 ||| (vshl (1 : Int64) x_9)) (x_6 + (1 : Int32)))) ∧ (x_9 = x_3 → (vz (0 : Int32) ∧ Q (0 : Int32))))
def w_X7_isSent_117 (x_1 : Int32) (x_2 : Int32) (x_3 : Int32) (x_4 : Int64) (x_6 : Int32) (x_7 : Int64) (x_9 : Int32) (s_p0_goes : Nat → Int32) (s_p0_lineCount : Nat → Int32) (s_p0_lines : Nat → Int64) (s_p0_points : Nat → Int32) (K_13 : (Int64) → (Int32) → Prop) (K_83 : (Int32) → Prop) (Q : Int32 → Prop) : Prop := (K_83 (x_9 + (1 : Int32)))
def w_X7_isSent_83s (x_1 : Int32) (x_2 : Int32) (x_3 : Int32) (x_4 : Int64) (x_6 : Int32) (x_7 : Int64) (s_p0_goes : Nat → Int32) (s_p0_lineCount : Nat → Int32) (s_p0_lines : Nat → Int64) (s_p0_points : Nat → Int32) (K_13 : (Int64) → (Int32) → Prop) (Q : Int32 → Prop) (K_83 : (Int32) → Prop) (x_9 : Int32) : Prop := ((x_3 ≤ x_9 → (w_X7_isSent_123 x_1 x_2 x_3 x_4 x_6 x_9 s_p0_goes s_p0_lineCount s_p0_lines s_p0_points K_13 Q)) ∧ (¬ x_3 ≤ x_9 → (w_X7_has x_4 x_9 (fun (r_93 : Int32) => ((¬ r_93 = 0 → (w_X7_isSent_117 x_1 x_2 x_3 x_4 x_6 x_7 x_9 s_p0_goes s_p0_lineCount s_p0_lines s_p0_points K_13 K_83 Q)) ∧ (r_93 = 0 → (vp_in (((45 : Int32) * x_2) + x_9) 270 ∧ (((lg_cmp (s_p0_lines ((((45 : Int32) * x_2) + x_9)).toNatClampNeg) x_7) = 0 → (w_X7_isSent_123 x_1 x_2 x_3 x_4 x_6 x_9 s_p0_goes s_p0_lineCount s_p0_lines s_p0_points K_13 Q)) ∧ (¬ (lg_cmp (s_p0_lines ((((45 : Int32) * x_2) + x_9)).toNatClampNeg) x_7) = 0 → (w_X7_isSent_117 x_1 x_2 x_3 x_4 x_6 x_7 x_9 s_p0_goes s_p0_lineCount s_p0_lines s_p0_points K_13 K_83 Q))))))))))
def w_X7_isSent_83 (x_1 : Int32) (x_2 : Int32) (x_3 : Int32) (x_4 : Int64) (x_6 : Int32) (x_7 : Int64) (s_p0_goes : Nat → Int32) (s_p0_lineCount : Nat → Int32) (s_p0_lines : Nat → Int64) (s_p0_points : Nat → Int32) (K_13 : (Int64) → (Int32) → Prop) (Q : Int32 → Prop) : Nat → (Int32) → Prop
  | 0 => fun _ => False
  | n_ + 1 => w_X7_isSent_83s x_1 x_2 x_3 x_4 x_6 x_7 s_p0_goes s_p0_lineCount s_p0_lines s_p0_points K_13 Q (w_X7_isSent_83 x_1 x_2 x_3 x_4 x_6 x_7 s_p0_goes s_p0_lineCount s_p0_lines s_p0_points K_13 Q n_)
def w_X7_isSent_71 (x_1 : Int32) (x_2 : Int32) (x_3 : Int32) (x_4 : Int64) (x_6 : Int32) (x_9 : Int32) (t_0 : Int64) (t_1 : Int64) (s_p0_goes : Nat → Int32) (s_p0_lineCount : Nat → Int32) (s_p0_lines : Nat → Int64) (s_p0_points : Nat → Int32) (K_13 : (Int64) → (Int32) → Prop) (K_25 : (Int64) → (Int32) → Prop) (Q : Int32 → Prop) : Prop := (K_25 (t_0 ||| t_1) (x_9 + (1 : Int32)))
def w_X7_isSent_25s (x_1 : Int32) (x_2 : Int32) (x_3 : Int32) (x_4 : Int64) (x_6 : Int32) (s_p0_goes : Nat → Int32) (s_p0_lineCount : Nat → Int32) (s_p0_lines : Nat → Int64) (s_p0_points : Nat → Int32) (K_13 : (Int64) → (Int32) → Prop) (Q : Int32 → Prop) (K_25 : (Int64) → (Int32) → Prop) (x_7 : Int64) (x_9 : Int32) : Prop := (vp_in x_1 6 ∧ (((s_p0_points (x_1).toNatClampNeg) ≤ x_9 → (∃ n_, w_X7_isSent_83 x_1 x_2 x_3 x_4 x_6 x_7 s_p0_goes s_p0_lineCount s_p0_lines s_p0_points K_13 Q n_ (0 : Int32))) ∧ (¬ (s_p0_points (x_1).toNatClampNeg) ≤ x_9 → (vp_in (((45 : Int32) * x_1) + x_6) 270 ∧ (w_X7_has (s_p0_lines ((((45 : Int32) * x_1) + x_6)).toNatClampNeg) x_9 (fun (r_52 : Int32) => ((r_52 = 0 → (w_X7_isSent_71 x_1 x_2 x_3 x_4 x_6 x_9 x_7 (0 : Int64) s_p0_goes s_p0_lineCount s_p0_lines s_p0_points K_13 K_25 Q)) ∧ (¬ r_52 = 0 → (vp_in x_9 46 ∧ (w_X7_isSent_71 x_1 x_2 x_3 x_4 x_6 x_9 x_7 (vshl (1 : Int64) (s_p0_goes (x_9).toNatClampNeg)) s_p0_goes s_p0_lineCount s_p0_lines s_p0_points K_13 K_25 Q))))))))))
def w_X7_isSent_25 (x_1 : Int32) (x_2 : Int32) (x_3 : Int32) (x_4 : Int64) (x_6 : Int32) (s_p0_goes : Nat → Int32) (s_p0_lineCount : Nat → Int32) (s_p0_lines : Nat → Int64) (s_p0_points : Nat → Int32) (K_13 : (Int64) → (Int32) → Prop) (Q : Int32 → Prop) : Nat → (Int64) → (Int32) → Prop
  | 0 => fun _ _ => False
  | n_ + 1 => w_X7_isSent_25s x_1 x_2 x_3 x_4 x_6 s_p0_goes s_p0_lineCount s_p0_lines s_p0_points K_13 Q (w_X7_isSent_25 x_1 x_2 x_3 x_4 x_6 s_p0_goes s_p0_lineCount s_p0_lines s_p0_points K_13 Q n_)
def w_X7_isSent_13s (x_1 : Int32) (x_2 : Int32) (x_3 : Int32) (s_p0_goes : Nat → Int32) (s_p0_lineCount : Nat → Int32) (s_p0_lines : Nat → Int64) (s_p0_points : Nat → Int32) (Q : Int32 → Prop) (K_13 : (Int64) → (Int32) → Prop) (x_4 : Int64) (x_6 : Int32) : Prop := ((x_3 ≤ x_6 → (vz (1 : Int32) ∧ Q (1 : Int32))) ∧ (¬ x_3 ≤ x_6 → (∃ n_, w_X7_isSent_25 x_1 x_2 x_3 x_4 x_6 s_p0_goes s_p0_lineCount s_p0_lines s_p0_points K_13 Q n_ (0 : Int64) (0 : Int32))))
def w_X7_isSent_13 (x_1 : Int32) (x_2 : Int32) (x_3 : Int32) (s_p0_goes : Nat → Int32) (s_p0_lineCount : Nat → Int32) (s_p0_lines : Nat → Int64) (s_p0_points : Nat → Int32) (Q : Int32 → Prop) : Nat → (Int64) → (Int32) → Prop
  | 0 => fun _ _ => False
  | n_ + 1 => w_X7_isSent_13s x_1 x_2 x_3 s_p0_goes s_p0_lineCount s_p0_lines s_p0_points Q (w_X7_isSent_13 x_1 x_2 x_3 s_p0_goes s_p0_lineCount s_p0_lines s_p0_points Q n_)
def w_X7_isSent (x_1 : Int32) (x_2 : Int32) (s_p0_goes : Nat → Int32) (s_p0_lineCount : Nat → Int32) (s_p0_lines : Nat → Int64) (s_p0_points : Nat → Int32) (Q : Int32 → Prop) : Prop := (vp_in x_1 6 ∧ (∃ n_, w_X7_isSent_13 x_1 x_2 (s_p0_lineCount (x_1).toNatClampNeg) s_p0_goes s_p0_lineCount s_p0_lines s_p0_points Q n_ (0 : Int64) (0 : Int32)))
-- X7_isSent
theorem iX7_isSent_X7 : ∀ w ∈ wsX70, w ∈ wsX7_isSent := by decide +kernel
set_option maxHeartbeats 4000000 in
set_option maxRecDepth 100000 in
theorem k_X7_isSent_123 {E : vE} {T : Nat → ClassId} {o_p0 : Nat} {a_p0 : Nat → Nat} {s_p0_finding : Int32} {s_p0_asked : Int64} {s_p0_newPoints : Int32} {s_p0_newLines : Int32} {s_p0_faultAt : Int64} {s_p0_tries : Int32} {s_p0_things : Int32} {s_p0_goals : Int32} {s_p0_level : Int32} {s_p0_goes : Nat → Int32} {s_p0_lineCount : Nat → Int32} {s_p0_lines : Nat → Int64} {s_p0_points : Nat → Int32} {x_1 : Int32} {x_2 : Int32} {x_3 : Int32} {x_4 : Int64} {x_6 : Int32} {x_9 : Int32} {K_13 : (Int64) → (Int32) → Prop} {Q : Int32 → Prop} (X : vX E cX7_isSent 10 RX7 wsX7_isSent (vT T) (vr 1 22)) (r : r_X7_isSent E T o_p0 a_p0 s_p0_finding s_p0_asked s_p0_newPoints s_p0_newLines s_p0_faultAt s_p0_tries s_p0_things s_p0_goals s_p0_level s_p0_goes s_p0_lineCount s_p0_lines s_p0_points Q) (hK_13 : ∀ (x_4' : Int64) (x_6' : Int32), K_13 x_4' x_6' → V E 0 0 13 [(0, .ref o_p0), (1, .int x_1), (2, .int x_2), (3, .int x_3), (4, .long x_4'), (6, .int x_6')] [] (cl_X7_isSent T o_p0 a_p0 s_p0_finding s_p0_asked s_p0_newPoints s_p0_newLines s_p0_faultAt s_p0_tries s_p0_things s_p0_goals s_p0_level s_p0_goes s_p0_lineCount s_p0_lines s_p0_points)) (h : w_X7_isSent_123 x_1 x_2 x_3 x_4 x_6 x_9 s_p0_goes s_p0_lineCount s_p0_lines s_p0_points K_13 Q) : V E 0 0 123 [(0, .ref o_p0), (1, .int x_1), (2, .int x_2), (3, .int x_3), (4, .long x_4), (6, .int x_6), (9, .int x_9)] [] (cl_X7_isSent T o_p0 a_p0 s_p0_finding s_p0_asked s_p0_newPoints s_p0_newLines s_p0_faultAt s_p0_tries s_p0_things s_p0_goals s_p0_level s_p0_goes s_p0_lineCount s_p0_lines s_p0_points) := by
  unfold w_X7_isSent_123 at h
  refine v_iload X 6 dX7_isSent_123 rfl ?_
  refine v_iload_n X 3 dX7_isSent_125 rfl rfl ?_
  refine v_icmp_ne X (tgt := 131) dX7_isSent_126 (by decide) (fun c_126 => ?_) (fun c_126 => ?_)
  · replace h := h.1 c_126
    refine v_lload X 4 dX7_isSent_131 rfl ?_
    refine v_lconst X dX7_isSent_133 (v := (1 : Int64)) (by decide) ?_
    refine v_iload X 6 dX7_isSent_134 rfl ?_
    refine v_lshl X dX7_isSent_136 ?_
    refine v_lor X dX7_isSent_137 ?_
    refine v_lstore X (lv' := [(4, .long (x_4 ||| (vshl (1 : Int64) x_9))), (0, .ref o_p0), (1, .int x_1), (2, .int x_2), (3, .int x_3), (6, .int x_6), (9, .int x_9)]) dX7_isSent_138 (by decide) rfl ?_
    refine v_iinc X (v := (x_6 + (1 : Int32))) (lv' := [(6, .int (x_6 + (1 : Int32))), (4, .long (x_4 ||| (vshl (1 : Int64) x_9))), (0, .ref o_p0), (1, .int x_1), (2, .int x_2), (3, .int x_3), (9, .int x_9)]) 5 dX7_isSent_140 rfl rfl (by decide) rfl ?_
    refine v_goto X (tgt := 13) dX7_isSent_143 (by decide) ?_
    refine v_lv (lv' := [(0, .ref o_p0), (1, .int x_1), (2, .int x_2), (3, .int x_3), (4, .long (x_4 ||| (vshl (1 : Int64) x_9))), (6, .int (x_6 + (1 : Int32)))]) [2, 3, 4, 5, 1, 0] rfl ?_
    exact hK_13 _ _ h
  · replace h := h.2 c_126
    refine v_iconst X dX7_isSent_129 (v := (0 : Int32)) (by decide) ?_
    exact r _ _ _ () _ dX7_isSent_130 h.1 h.2 rfl
set_option maxHeartbeats 4000000 in
set_option maxRecDepth 100000 in
theorem k_X7_isSent_117 {E : vE} {T : Nat → ClassId} {o_p0 : Nat} {a_p0 : Nat → Nat} {s_p0_finding : Int32} {s_p0_asked : Int64} {s_p0_newPoints : Int32} {s_p0_newLines : Int32} {s_p0_faultAt : Int64} {s_p0_tries : Int32} {s_p0_things : Int32} {s_p0_goals : Int32} {s_p0_level : Int32} {s_p0_goes : Nat → Int32} {s_p0_lineCount : Nat → Int32} {s_p0_lines : Nat → Int64} {s_p0_points : Nat → Int32} {x_1 : Int32} {x_2 : Int32} {x_3 : Int32} {x_4 : Int64} {x_6 : Int32} {x_7 : Int64} {x_9 : Int32} {K_13 : (Int64) → (Int32) → Prop} {K_83 : (Int32) → Prop} {Q : Int32 → Prop} (X : vX E cX7_isSent 10 RX7 wsX7_isSent (vT T) (vr 1 22)) (r : r_X7_isSent E T o_p0 a_p0 s_p0_finding s_p0_asked s_p0_newPoints s_p0_newLines s_p0_faultAt s_p0_tries s_p0_things s_p0_goals s_p0_level s_p0_goes s_p0_lineCount s_p0_lines s_p0_points Q) (hK_13 : ∀ (x_4' : Int64) (x_6' : Int32), K_13 x_4' x_6' → V E 0 0 13 [(0, .ref o_p0), (1, .int x_1), (2, .int x_2), (3, .int x_3), (4, .long x_4'), (6, .int x_6')] [] (cl_X7_isSent T o_p0 a_p0 s_p0_finding s_p0_asked s_p0_newPoints s_p0_newLines s_p0_faultAt s_p0_tries s_p0_things s_p0_goals s_p0_level s_p0_goes s_p0_lineCount s_p0_lines s_p0_points)) (hK_83 : ∀ (x_9' : Int32), K_83 x_9' → V E 0 0 83 [(0, .ref o_p0), (1, .int x_1), (2, .int x_2), (3, .int x_3), (4, .long x_4), (6, .int x_6), (7, .long x_7), (9, .int x_9')] [] (cl_X7_isSent T o_p0 a_p0 s_p0_finding s_p0_asked s_p0_newPoints s_p0_newLines s_p0_faultAt s_p0_tries s_p0_things s_p0_goals s_p0_level s_p0_goes s_p0_lineCount s_p0_lines s_p0_points)) (h : w_X7_isSent_117 x_1 x_2 x_3 x_4 x_6 x_7 x_9 s_p0_goes s_p0_lineCount s_p0_lines s_p0_points K_13 K_83 Q) : V E 0 0 117 [(0, .ref o_p0), (1, .int x_1), (2, .int x_2), (3, .int x_3), (4, .long x_4), (6, .int x_6), (7, .long x_7), (9, .int x_9)] [] (cl_X7_isSent T o_p0 a_p0 s_p0_finding s_p0_asked s_p0_newPoints s_p0_newLines s_p0_faultAt s_p0_tries s_p0_things s_p0_goals s_p0_level s_p0_goes s_p0_lineCount s_p0_lines s_p0_points) := by
  unfold w_X7_isSent_117 at h
  refine v_iinc X (v := (x_9 + (1 : Int32))) (lv' := [(9, .int (x_9 + (1 : Int32))), (0, .ref o_p0), (1, .int x_1), (2, .int x_2), (3, .int x_3), (4, .long x_4), (6, .int x_6), (7, .long x_7)]) 7 dX7_isSent_117 rfl rfl (by decide) rfl ?_
  refine v_goto X (tgt := 83) dX7_isSent_120 (by decide) ?_
  refine v_lv (lv' := [(0, .ref o_p0), (1, .int x_1), (2, .int x_2), (3, .int x_3), (4, .long x_4), (6, .int x_6), (7, .long x_7), (9, .int (x_9 + (1 : Int32)))]) [1, 2, 3, 4, 5, 6, 7, 0] rfl ?_
  exact hK_83 _ h
set_option maxHeartbeats 4000000 in
set_option maxRecDepth 100000 in
theorem k_X7_isSent_83 {E : vE} {T : Nat → ClassId} {o_p0 : Nat} {a_p0 : Nat → Nat} {s_p0_finding : Int32} {s_p0_asked : Int64} {s_p0_newPoints : Int32} {s_p0_newLines : Int32} {s_p0_faultAt : Int64} {s_p0_tries : Int32} {s_p0_things : Int32} {s_p0_goals : Int32} {s_p0_level : Int32} {s_p0_goes : Nat → Int32} {s_p0_lineCount : Nat → Int32} {s_p0_lines : Nat → Int64} {s_p0_points : Nat → Int32} {x_1 : Int32} {x_2 : Int32} {x_3 : Int32} {x_4 : Int64} {x_6 : Int32} {x_7 : Int64} {K_13 : (Int64) → (Int32) → Prop} {Q : Int32 → Prop} (X : vX E cX7_isSent 10 RX7 wsX7_isSent (vT T) (vr 1 22)) (r : r_X7_isSent E T o_p0 a_p0 s_p0_finding s_p0_asked s_p0_newPoints s_p0_newLines s_p0_faultAt s_p0_tries s_p0_things s_p0_goals s_p0_level s_p0_goes s_p0_lineCount s_p0_lines s_p0_points Q) (hK_13 : ∀ (x_4' : Int64) (x_6' : Int32), K_13 x_4' x_6' → V E 0 0 13 [(0, .ref o_p0), (1, .int x_1), (2, .int x_2), (3, .int x_3), (4, .long x_4'), (6, .int x_6')] [] (cl_X7_isSent T o_p0 a_p0 s_p0_finding s_p0_asked s_p0_newPoints s_p0_newLines s_p0_faultAt s_p0_tries s_p0_things s_p0_goals s_p0_level s_p0_goes s_p0_lineCount s_p0_lines s_p0_points)) : ∀ (n_ : Nat) (x_9 : Int32), w_X7_isSent_83 x_1 x_2 x_3 x_4 x_6 x_7 s_p0_goes s_p0_lineCount s_p0_lines s_p0_points K_13 Q n_ x_9 → V E 0 0 83 [(0, .ref o_p0), (1, .int x_1), (2, .int x_2), (3, .int x_3), (4, .long x_4), (6, .int x_6), (7, .long x_7), (9, .int x_9)] [] (cl_X7_isSent T o_p0 a_p0 s_p0_finding s_p0_asked s_p0_newPoints s_p0_newLines s_p0_faultAt s_p0_tries s_p0_things s_p0_goals s_p0_level s_p0_goes s_p0_lineCount s_p0_lines s_p0_points) := by
  intro n_
  induction n_ with
  | zero => intro x_9 h; exact h.elim
  | succ n_ hK_83 =>
    intro x_9 h
    replace h : w_X7_isSent_83s x_1 x_2 x_3 x_4 x_6 x_7 s_p0_goes s_p0_lineCount s_p0_lines s_p0_points K_13 Q (w_X7_isSent_83 x_1 x_2 x_3 x_4 x_6 x_7 s_p0_goes s_p0_lineCount s_p0_lines s_p0_points K_13 Q n_) x_9 := h
    unfold w_X7_isSent_83s at h
    refine v_iload X 7 dX7_isSent_83 rfl ?_
    refine v_iload_n X 3 dX7_isSent_85 rfl rfl ?_
    refine v_icmp_ge X (tgt := 123) dX7_isSent_86 (by decide) (fun c_86 => ?_) (fun c_86 => ?_)
    · replace h := h.1 c_86
      refine v_lv (lv' := [(0, .ref o_p0), (1, .int x_1), (2, .int x_2), (3, .int x_3), (4, .long x_4), (6, .int x_6), (9, .int x_9)]) [0, 1, 2, 3, 4, 5, 7] rfl ?_
      exact k_X7_isSent_123 X r hK_13 h
    · replace h := h.2 c_86
      refine v_lload X 4 dX7_isSent_89 rfl ?_
      refine v_iload X 7 dX7_isSent_91 rfl ?_
      refine v_callSi0 X (As := [.long x_4, .int x_9]) (rest := []) 2 (c_X7_has (l := vl E) (D := vD E) (T := T) (x_0 := x_4) (x_2 := x_9) h) gX7_isSent_X7_has rfl rfl (by decide +kernel) ⟨Nat.zero_le _, Nat.zero_le _⟩ ⟨rfl, rfl, by decide, by decide⟩ (Nat.le_of_ble_eq_true rfl) rfl dX7_isSent_93 (fun r_93 h => ?_)
      refine v_if_ne X (tgt := 117) dX7_isSent_96 (by decide) (fun c_96 => ?_) (fun c_96 => ?_)
      · replace h := h.1 c_96
        exact k_X7_isSent_117 X r hK_13 hK_83 h
      · replace h := h.2 c_96
        refine v_aload_n X 0 dX7_isSent_99 rfl rfl ?_
        refine v_get X 0 7 (F := TX7) (N := 33) iX7_isSent_X7 rfl rfl (by decide) (List.mem_of_getElem? (i := 3) rfl) rfl rfl dX7_isSent_100 ?_
        refine v_bipush X dX7_isSent_103 (v := (45 : Int32)) (by decide) ?_
        refine v_iload_n X 2 dX7_isSent_105 rfl rfl ?_
        refine v_imul X dX7_isSent_106 ?_
        refine v_iload X 7 dX7_isSent_107 rfl ?_
        refine v_iadd X dX7_isSent_109 ?_
        refine v_lald X 3 1 rfl rfl h.1 dX7_isSent_110 ?_
        replace h := h.2
        refine v_lload X 6 dX7_isSent_111 rfl ?_
        refine v_lcmp X dX7_isSent_113 ?_
        refine v_if_eq X (tgt := 123) dX7_isSent_114 (by decide) (fun c_114 => ?_) (fun c_114 => ?_)
        · replace h := h.1 c_114
          refine v_lv (lv' := [(0, .ref o_p0), (1, .int x_1), (2, .int x_2), (3, .int x_3), (4, .long x_4), (6, .int x_6), (9, .int x_9)]) [0, 1, 2, 3, 4, 5, 7] rfl ?_
          exact k_X7_isSent_123 X r hK_13 h
        · replace h := h.2 c_114
          exact k_X7_isSent_117 X r hK_13 hK_83 h
set_option maxHeartbeats 4000000 in
set_option maxRecDepth 100000 in
theorem k_X7_isSent_71 {E : vE} {T : Nat → ClassId} {o_p0 : Nat} {a_p0 : Nat → Nat} {s_p0_finding : Int32} {s_p0_asked : Int64} {s_p0_newPoints : Int32} {s_p0_newLines : Int32} {s_p0_faultAt : Int64} {s_p0_tries : Int32} {s_p0_things : Int32} {s_p0_goals : Int32} {s_p0_level : Int32} {s_p0_goes : Nat → Int32} {s_p0_lineCount : Nat → Int32} {s_p0_lines : Nat → Int64} {s_p0_points : Nat → Int32} {x_1 : Int32} {x_2 : Int32} {x_3 : Int32} {x_4 : Int64} {x_6 : Int32} {x_9 : Int32} {t_0 : Int64} {t_1 : Int64} {K_13 : (Int64) → (Int32) → Prop} {K_25 : (Int64) → (Int32) → Prop} {Q : Int32 → Prop} (X : vX E cX7_isSent 10 RX7 wsX7_isSent (vT T) (vr 1 22)) (r : r_X7_isSent E T o_p0 a_p0 s_p0_finding s_p0_asked s_p0_newPoints s_p0_newLines s_p0_faultAt s_p0_tries s_p0_things s_p0_goals s_p0_level s_p0_goes s_p0_lineCount s_p0_lines s_p0_points Q) (hK_13 : ∀ (x_4' : Int64) (x_6' : Int32), K_13 x_4' x_6' → V E 0 0 13 [(0, .ref o_p0), (1, .int x_1), (2, .int x_2), (3, .int x_3), (4, .long x_4'), (6, .int x_6')] [] (cl_X7_isSent T o_p0 a_p0 s_p0_finding s_p0_asked s_p0_newPoints s_p0_newLines s_p0_faultAt s_p0_tries s_p0_things s_p0_goals s_p0_level s_p0_goes s_p0_lineCount s_p0_lines s_p0_points)) (hK_25 : ∀ (x_7' : Int64) (x_9' : Int32), K_25 x_7' x_9' → V E 0 0 25 [(0, .ref o_p0), (1, .int x_1), (2, .int x_2), (3, .int x_3), (4, .long x_4), (6, .int x_6), (7, .long x_7'), (9, .int x_9')] [] (cl_X7_isSent T o_p0 a_p0 s_p0_finding s_p0_asked s_p0_newPoints s_p0_newLines s_p0_faultAt s_p0_tries s_p0_things s_p0_goals s_p0_level s_p0_goes s_p0_lineCount s_p0_lines s_p0_points)) (h : w_X7_isSent_71 x_1 x_2 x_3 x_4 x_6 x_9 t_0 t_1 s_p0_goes s_p0_lineCount s_p0_lines s_p0_points K_13 K_25 Q) : V E 0 0 71 [(0, .ref o_p0), (1, .int x_1), (2, .int x_2), (3, .int x_3), (4, .long x_4), (6, .int x_6), (9, .int x_9)] [.long t_1, .long t_0] (cl_X7_isSent T o_p0 a_p0 s_p0_finding s_p0_asked s_p0_newPoints s_p0_newLines s_p0_faultAt s_p0_tries s_p0_things s_p0_goals s_p0_level s_p0_goes s_p0_lineCount s_p0_lines s_p0_points) := by
  unfold w_X7_isSent_71 at h
  refine v_lor X dX7_isSent_71 ?_
  refine v_lstore X (lv' := [(7, .long (t_0 ||| t_1)), (0, .ref o_p0), (1, .int x_1), (2, .int x_2), (3, .int x_3), (4, .long x_4), (6, .int x_6), (9, .int x_9)]) dX7_isSent_72 (by decide) rfl ?_
  refine v_iinc X (v := (x_9 + (1 : Int32))) (lv' := [(9, .int (x_9 + (1 : Int32))), (7, .long (t_0 ||| t_1)), (0, .ref o_p0), (1, .int x_1), (2, .int x_2), (3, .int x_3), (4, .long x_4), (6, .int x_6)]) 7 dX7_isSent_74 rfl rfl (by decide) rfl ?_
  refine v_goto X (tgt := 25) dX7_isSent_77 (by decide) ?_
  refine v_lv (lv' := [(0, .ref o_p0), (1, .int x_1), (2, .int x_2), (3, .int x_3), (4, .long x_4), (6, .int x_6), (7, .long (t_0 ||| t_1)), (9, .int (x_9 + (1 : Int32)))]) [2, 3, 4, 5, 6, 7, 1, 0] rfl ?_
  exact hK_25 _ _ h
set_option maxHeartbeats 4000000 in
set_option maxRecDepth 100000 in
theorem k_X7_isSent_25 {E : vE} {T : Nat → ClassId} {o_p0 : Nat} {a_p0 : Nat → Nat} {s_p0_finding : Int32} {s_p0_asked : Int64} {s_p0_newPoints : Int32} {s_p0_newLines : Int32} {s_p0_faultAt : Int64} {s_p0_tries : Int32} {s_p0_things : Int32} {s_p0_goals : Int32} {s_p0_level : Int32} {s_p0_goes : Nat → Int32} {s_p0_lineCount : Nat → Int32} {s_p0_lines : Nat → Int64} {s_p0_points : Nat → Int32} {x_1 : Int32} {x_2 : Int32} {x_3 : Int32} {x_4 : Int64} {x_6 : Int32} {K_13 : (Int64) → (Int32) → Prop} {Q : Int32 → Prop} (X : vX E cX7_isSent 10 RX7 wsX7_isSent (vT T) (vr 1 22)) (r : r_X7_isSent E T o_p0 a_p0 s_p0_finding s_p0_asked s_p0_newPoints s_p0_newLines s_p0_faultAt s_p0_tries s_p0_things s_p0_goals s_p0_level s_p0_goes s_p0_lineCount s_p0_lines s_p0_points Q) (hK_13 : ∀ (x_4' : Int64) (x_6' : Int32), K_13 x_4' x_6' → V E 0 0 13 [(0, .ref o_p0), (1, .int x_1), (2, .int x_2), (3, .int x_3), (4, .long x_4'), (6, .int x_6')] [] (cl_X7_isSent T o_p0 a_p0 s_p0_finding s_p0_asked s_p0_newPoints s_p0_newLines s_p0_faultAt s_p0_tries s_p0_things s_p0_goals s_p0_level s_p0_goes s_p0_lineCount s_p0_lines s_p0_points)) : ∀ (n_ : Nat) (x_7 : Int64) (x_9 : Int32), w_X7_isSent_25 x_1 x_2 x_3 x_4 x_6 s_p0_goes s_p0_lineCount s_p0_lines s_p0_points K_13 Q n_ x_7 x_9 → V E 0 0 25 [(0, .ref o_p0), (1, .int x_1), (2, .int x_2), (3, .int x_3), (4, .long x_4), (6, .int x_6), (7, .long x_7), (9, .int x_9)] [] (cl_X7_isSent T o_p0 a_p0 s_p0_finding s_p0_asked s_p0_newPoints s_p0_newLines s_p0_faultAt s_p0_tries s_p0_things s_p0_goals s_p0_level s_p0_goes s_p0_lineCount s_p0_lines s_p0_points) := by
  intro n_
  induction n_ with
  | zero => intro x_7 x_9 h; exact h.elim
  | succ n_ hK_25 =>
    intro x_7 x_9 h
    replace h : w_X7_isSent_25s x_1 x_2 x_3 x_4 x_6 s_p0_goes s_p0_lineCount s_p0_lines s_p0_points K_13 Q (w_X7_isSent_25 x_1 x_2 x_3 x_4 x_6 s_p0_goes s_p0_lineCount s_p0_lines s_p0_points K_13 Q n_) x_7 x_9 := h
    unfold w_X7_isSent_25s at h
    refine v_iload X 7 dX7_isSent_25 rfl ?_
    refine v_aload_n X 0 dX7_isSent_27 rfl rfl ?_
    refine v_get X 0 3 (F := TX7) (N := 33) iX7_isSent_X7 rfl rfl (by decide) (List.mem_of_getElem? (i := 2) rfl) rfl rfl dX7_isSent_28 ?_
    refine v_iload_n X 1 dX7_isSent_31 rfl rfl ?_
    refine v_iald X 4 0 rfl rfl h.1 dX7_isSent_32 ?_
    replace h := h.2
    refine v_icmp_ge X (tgt := 80) dX7_isSent_33 (by decide) (fun c_33 => ?_) (fun c_33 => ?_)
    · replace h := h.1 c_33
      refine v_iconst X dX7_isSent_80 (v := (0 : Int32)) (by decide) ?_
      refine v_istore X (lv' := [(9, .int (0 : Int32)), (0, .ref o_p0), (1, .int x_1), (2, .int x_2), (3, .int x_3), (4, .long x_4), (6, .int x_6), (7, .long x_7)]) dX7_isSent_81 (by decide) rfl ?_
      refine v_lv (lv' := [(0, .ref o_p0), (1, .int x_1), (2, .int x_2), (3, .int x_3), (4, .long x_4), (6, .int x_6), (7, .long x_7), (9, .int (0 : Int32))]) [1, 2, 3, 4, 5, 6, 7, 0] rfl ?_
      obtain ⟨n_, h⟩ := h
      exact k_X7_isSent_83 X r hK_13 n_ _ h
    · replace h := h.2 c_33
      refine v_lload X 6 dX7_isSent_36 rfl ?_
      refine v_aload_n X 0 dX7_isSent_38 rfl rfl ?_
      refine v_get X 0 7 (F := TX7) (N := 33) iX7_isSent_X7 rfl rfl (by decide) (List.mem_of_getElem? (i := 3) rfl) rfl rfl dX7_isSent_39 ?_
      refine v_bipush X dX7_isSent_42 (v := (45 : Int32)) (by decide) ?_
      refine v_iload_n X 1 dX7_isSent_44 rfl rfl ?_
      refine v_imul X dX7_isSent_45 ?_
      refine v_iload X 5 dX7_isSent_46 rfl ?_
      refine v_iadd X dX7_isSent_48 ?_
      refine v_lald X 3 1 rfl rfl h.1 dX7_isSent_49 ?_
      replace h := h.2
      refine v_iload X 7 dX7_isSent_50 rfl ?_
      refine v_callSi0 X (As := [.long (s_p0_lines ((((45 : Int32) * x_1) + x_6)).toNatClampNeg), .int x_9]) (rest := [.long x_7]) 2 (c_X7_has (l := vl E) (D := vD E) (T := T) (x_0 := (s_p0_lines ((((45 : Int32) * x_1) + x_6)).toNatClampNeg)) (x_2 := x_9) h) gX7_isSent_X7_has rfl rfl (by decide +kernel) ⟨Nat.zero_le _, Nat.zero_le _⟩ ⟨rfl, rfl, by decide, by decide⟩ (Nat.le_of_ble_eq_true rfl) rfl dX7_isSent_52 (fun r_52 h => ?_)
      refine v_if_eq X (tgt := 70) dX7_isSent_55 (by decide) (fun c_55 => ?_) (fun c_55 => ?_)
      · replace h := h.1 c_55
        refine v_lconst X dX7_isSent_70 (v := (0 : Int64)) (by decide) ?_
        refine v_lv (lv' := [(0, .ref o_p0), (1, .int x_1), (2, .int x_2), (3, .int x_3), (4, .long x_4), (6, .int x_6), (9, .int x_9)]) [0, 1, 2, 3, 4, 5, 7] rfl ?_
        exact k_X7_isSent_71 X r hK_13 hK_25 h
      · replace h := h.2 c_55
        refine v_lconst X dX7_isSent_58 (v := (1 : Int64)) (by decide) ?_
        refine v_aload_n X 0 dX7_isSent_59 rfl rfl ?_
        refine v_get X 0 25 (F := TX7) (N := 33) iX7_isSent_X7 rfl rfl (by decide) (List.mem_of_getElem? (i := 4) rfl) rfl rfl dX7_isSent_60 ?_
        refine v_iload X 7 dX7_isSent_63 rfl ?_
        refine v_iald X 1 0 rfl rfl h.1 dX7_isSent_65 ?_
        replace h := h.2
        refine v_lshl X dX7_isSent_66 ?_
        refine v_goto X (tgt := 71) dX7_isSent_67 (by decide) ?_
        refine v_lv (lv' := [(0, .ref o_p0), (1, .int x_1), (2, .int x_2), (3, .int x_3), (4, .long x_4), (6, .int x_6), (9, .int x_9)]) [0, 1, 2, 3, 4, 5, 7] rfl ?_
        exact k_X7_isSent_71 X r hK_13 hK_25 h
set_option maxHeartbeats 4000000 in
set_option maxRecDepth 100000 in
theorem k_X7_isSent_13 {E : vE} {T : Nat → ClassId} {o_p0 : Nat} {a_p0 : Nat → Nat} {s_p0_finding : Int32} {s_p0_asked : Int64} {s_p0_newPoints : Int32} {s_p0_newLines : Int32} {s_p0_faultAt : Int64} {s_p0_tries : Int32} {s_p0_things : Int32} {s_p0_goals : Int32} {s_p0_level : Int32} {s_p0_goes : Nat → Int32} {s_p0_lineCount : Nat → Int32} {s_p0_lines : Nat → Int64} {s_p0_points : Nat → Int32} {x_1 : Int32} {x_2 : Int32} {x_3 : Int32} {Q : Int32 → Prop} (X : vX E cX7_isSent 10 RX7 wsX7_isSent (vT T) (vr 1 22)) (r : r_X7_isSent E T o_p0 a_p0 s_p0_finding s_p0_asked s_p0_newPoints s_p0_newLines s_p0_faultAt s_p0_tries s_p0_things s_p0_goals s_p0_level s_p0_goes s_p0_lineCount s_p0_lines s_p0_points Q) : ∀ (n_ : Nat) (x_4 : Int64) (x_6 : Int32), w_X7_isSent_13 x_1 x_2 x_3 s_p0_goes s_p0_lineCount s_p0_lines s_p0_points Q n_ x_4 x_6 → V E 0 0 13 [(0, .ref o_p0), (1, .int x_1), (2, .int x_2), (3, .int x_3), (4, .long x_4), (6, .int x_6)] [] (cl_X7_isSent T o_p0 a_p0 s_p0_finding s_p0_asked s_p0_newPoints s_p0_newLines s_p0_faultAt s_p0_tries s_p0_things s_p0_goals s_p0_level s_p0_goes s_p0_lineCount s_p0_lines s_p0_points) := by
  intro n_
  induction n_ with
  | zero => intro x_4 x_6 h; exact h.elim
  | succ n_ hK_13 =>
    intro x_4 x_6 h
    replace h : w_X7_isSent_13s x_1 x_2 x_3 s_p0_goes s_p0_lineCount s_p0_lines s_p0_points Q (w_X7_isSent_13 x_1 x_2 x_3 s_p0_goes s_p0_lineCount s_p0_lines s_p0_points Q n_) x_4 x_6 := h
    unfold w_X7_isSent_13s at h
    refine v_iload X 5 dX7_isSent_13 rfl ?_
    refine v_iload_n X 3 dX7_isSent_15 rfl rfl ?_
    refine v_icmp_ge X (tgt := 146) dX7_isSent_16 (by decide) (fun c_16 => ?_) (fun c_16 => ?_)
    · replace h := h.1 c_16
      refine v_iconst X dX7_isSent_146 (v := (1 : Int32)) (by decide) ?_
      exact r _ _ _ () _ dX7_isSent_147 h.1 h.2 rfl
    · replace h := h.2 c_16
      refine v_lconst X dX7_isSent_19 (v := (0 : Int64)) (by decide) ?_
      refine v_lstore X (lv' := [(7, .long (0 : Int64)), (0, .ref o_p0), (1, .int x_1), (2, .int x_2), (3, .int x_3), (4, .long x_4), (6, .int x_6)]) dX7_isSent_20 (by decide) rfl ?_
      refine v_iconst X dX7_isSent_22 (v := (0 : Int32)) (by decide) ?_
      refine v_istore X (lv' := [(9, .int (0 : Int32)), (7, .long (0 : Int64)), (0, .ref o_p0), (1, .int x_1), (2, .int x_2), (3, .int x_3), (4, .long x_4), (6, .int x_6)]) dX7_isSent_23 (by decide) rfl ?_
      refine v_lv (lv' := [(0, .ref o_p0), (1, .int x_1), (2, .int x_2), (3, .int x_3), (4, .long x_4), (6, .int x_6), (7, .long (0 : Int64)), (9, .int (0 : Int32))]) [2, 3, 4, 5, 6, 7, 1, 0] rfl ?_
      obtain ⟨n_, h⟩ := h
      exact k_X7_isSent_25 X r hK_13 n_ _ _ h
set_option maxHeartbeats 4000000 in
set_option maxRecDepth 100000 in
theorem c_X7_isSent {l : Launch} {D : va_G} {T : Nat → ClassId} {o_p0 : Nat} {a_p0 : Nat → Nat} {s_p0_finding : Int32} {s_p0_asked : Int64} {s_p0_newPoints : Int32} {s_p0_newLines : Int32} {s_p0_faultAt : Int64} {s_p0_tries : Int32} {s_p0_things : Int32} {s_p0_goals : Int32} {s_p0_level : Int32} {s_p0_goes : Nat → Int32} {s_p0_lineCount : Nat → Int32} {s_p0_lines : Nat → Int64} {s_p0_points : Nat → Int32} {x_1 : Int32} {x_2 : Int32} {Q : Int32 → Prop} (h : w_X7_isSent x_1 x_2 s_p0_goes s_p0_lineCount s_p0_lines s_p0_points Q) : vCi l D (vT T) yX7_isSent wsX7_isSent (vr 1 22) [.ref o_p0, .int x_1, .int x_2] (cl_X7_isSent T o_p0 a_p0 s_p0_finding s_p0_asked s_p0_newPoints s_p0_newLines s_p0_faultAt s_p0_tries s_p0_things s_p0_goals s_p0_level s_p0_goes s_p0_lineCount s_p0_lines s_p0_points) (fun v (u : Unit) => Q v) (fun (u : Unit) => (cl_X7_isSent T o_p0 a_p0 s_p0_finding s_p0_asked s_p0_newPoints s_p0_newLines s_p0_faultAt s_p0_tries s_p0_things s_p0_goals s_p0_level s_p0_goes s_p0_lineCount s_p0_lines s_p0_points)) := by
  refine vC_z (cc := cX7_isSent) (nL := 10) (by decide +kernel) rfl ⟨rfl, rfl⟩ (Nat.le_of_ble_eq_true rfl) rfl ?_
  intro E el eD X r
  unfold w_X7_isSent at h
  refine v_aload_n X 0 dX7_isSent_0 rfl rfl ?_
  refine v_get X 0 4 (F := TX7) (N := 33) iX7_isSent_X7 rfl rfl (by decide) (List.mem_of_getElem? (i := 1) rfl) rfl rfl dX7_isSent_1 ?_
  refine v_iload_n X 1 dX7_isSent_4 rfl rfl ?_
  refine v_iald X 2 0 rfl rfl h.1 dX7_isSent_5 ?_
  replace h := h.2
  refine v_istore_n X (lv' := [(3, .int (s_p0_lineCount (x_1).toNatClampNeg)), (0, .ref o_p0), (1, .int x_1), (2, .int x_2)]) dX7_isSent_6 rfl (by decide) rfl ?_
  refine v_lconst X dX7_isSent_7 (v := (0 : Int64)) (by decide) ?_
  refine v_lstore X (lv' := [(4, .long (0 : Int64)), (3, .int (s_p0_lineCount (x_1).toNatClampNeg)), (0, .ref o_p0), (1, .int x_1), (2, .int x_2)]) dX7_isSent_8 (by decide) rfl ?_
  refine v_iconst X dX7_isSent_10 (v := (0 : Int32)) (by decide) ?_
  refine v_istore X (lv' := [(6, .int (0 : Int32)), (4, .long (0 : Int64)), (3, .int (s_p0_lineCount (x_1).toNatClampNeg)), (0, .ref o_p0), (1, .int x_1), (2, .int x_2)]) dX7_isSent_11 (by decide) rfl ?_
  refine v_lv (lv' := [(0, .ref o_p0), (1, .int x_1), (2, .int x_2), (3, .int (s_p0_lineCount (x_1).toNatClampNeg)), (4, .long (0 : Int64)), (6, .int (0 : Int32))]) [3, 4, 5, 2, 1, 0] rfl ?_
  obtain ⟨n_, h⟩ := h
  exact k_X7_isSent_13 X r n_ _ _ h
-- X7_alike
abbrev cl_X7_alike (T : Nat → ClassId) (o_p0 : Nat) (a_p0 : Nat → Nat) (s_p0_finding : Int32) (s_p0_asked : Int64) (s_p0_newPoints : Int32) (s_p0_newLines : Int32) (s_p0_faultAt : Int64) (s_p0_tries : Int32) (s_p0_things : Int32) (s_p0_goals : Int32) (s_p0_level : Int32) (s_p0_degrees : Nat → Int32) (s_p0_findings : Nat → Int32) (s_p0_goes : Nat → Int32) (s_p0_lineCount : Nat → Int32) (s_p0_lines : Nat → Int64) (s_p0_nears : Nat → Int64) (s_p0_otherDegrees : Nat → Int32) (s_p0_otherNears : Nat → Int64) (s_p0_points : Nat → Int32) (s_p0_sent : Nat → Int32) : va_W := [vO o_p0 4 [.int s_p0_finding, .ref (a_p0 1), .long s_p0_asked, .ref (a_p0 3), .ref (a_p0 4), .ref (a_p0 5), .ref (a_p0 6), .ref (a_p0 7), .int s_p0_newPoints, .int s_p0_newLines, .ref (a_p0 10), .ref (a_p0 11), .long s_p0_faultAt, .int s_p0_tries, .int s_p0_things, .int s_p0_goals, .ref (a_p0 16), .ref (a_p0 17), .ref (a_p0 18), .ref (a_p0 19), .ref (a_p0 20), .ref (a_p0 21), .int s_p0_level, .ref (a_p0 23), .ref (a_p0 24), .ref (a_p0 25), .ref (a_p0 26), .ref (a_p0 27), .ref (a_p0 28), .ref (a_p0 29), .ref (a_p0 30), .ref (a_p0 31), .ref (a_p0 32)], vI T (a_p0 28) 45 s_p0_degrees, vI T (a_p0 1) 6 s_p0_findings, vI T (a_p0 25) 46 s_p0_goes, vI T (a_p0 4) 6 s_p0_lineCount, vJ T (a_p0 7) 270 s_p0_lines, vJ T (a_p0 26) 45 s_p0_nears, vI T (a_p0 29) 45 s_p0_otherDegrees, vJ T (a_p0 27) 45 s_p0_otherNears, vI T (a_p0 3) 6 s_p0_points, vI T (a_p0 24) 45 s_p0_sent]
abbrev r_X7_alike (E : vE) (T : Nat → ClassId) (o_p0 : Nat) (a_p0 : Nat → Nat) (s_p0_asked : Int64) (s_p0_newPoints : Int32) (s_p0_newLines : Int32) (s_p0_faultAt : Int64) (s_p0_things : Int32) (s_p0_goals : Int32) (s_p0_level : Int32) (s_p0_lineCount : Nat → Int32) (s_p0_lines : Nat → Int64) (s_p0_points : Nat → Int32) (Q : Int32 → (Int32) → (Int32) → (Nat → Int32) → (Nat → Int32) → (Nat → Int32) → (Nat → Int64) → (Nat → Int32) → (Nat → Int64) → (Nat → Int32) → Prop) : Prop := vRi E cX7_alike (fun v (u : (Int32) × (Int32) × (Nat → Int32) × (Nat → Int32) × (Nat → Int32) × (Nat → Int64) × (Nat → Int32) × (Nat → Int64) × (Nat → Int32)) => Q v u.1 u.2.1 u.2.2.1 u.2.2.2.1 u.2.2.2.2.1 u.2.2.2.2.2.1 u.2.2.2.2.2.2.1 u.2.2.2.2.2.2.2.1 u.2.2.2.2.2.2.2.2) (fun (u : (Int32) × (Int32) × (Nat → Int32) × (Nat → Int32) × (Nat → Int32) × (Nat → Int64) × (Nat → Int32) × (Nat → Int64) × (Nat → Int32)) => (cl_X7_alike T o_p0 a_p0 u.1 s_p0_asked s_p0_newPoints s_p0_newLines s_p0_faultAt u.2.1 s_p0_things s_p0_goals s_p0_level u.2.2.1 u.2.2.2.1 u.2.2.2.2.1 s_p0_lineCount s_p0_lines u.2.2.2.2.2.1 u.2.2.2.2.2.2.1 u.2.2.2.2.2.2.2.1 s_p0_points u.2.2.2.2.2.2.2.2))
def w_X7_alike_289 (x_1 : Int32) (x_2 : Int32) (x_3 : Int32) (x_4 : Int32) (x_5 : Int32) (x_6 : Int32) (s_p0_finding : Int32) (s_p0_tries : Int32) (s_p0_degrees : Nat → Int32) (s_p0_findings : Nat → Int32) (s_p0_goes : Nat → Int32) (s_p0_lineCount : Nat → Int32) (s_p0_lines : Nat → Int64) (s_p0_nears : Nat → Int64) (s_p0_otherDegrees : Nat → Int32) (s_p0_otherNears : Nat → Int64) (s_p0_points : Nat → Int32) (s_p0_sent : Nat → Int32) (K_183 : (Int32) → (Int32) → (Nat → Int32) → Prop) (Q : Int32 → (Int32) → (Int32) → (Nat → Int32) → (Nat → Int32) → (Nat → Int32) → (Nat → Int64) → (Nat → Int32) → (Nat → Int64) → (Nat → Int32) → Prop) : Prop := ((¬ x_6 = x_4 → ((¬ s_p0_tries = x_3 → (vp_in x_5 46 ∧ (vp_in (x_5 + (1 : Int32)) 46 ∧ (K_183 (x_5 + (1 : Int32)) (s_p0_tries + (1 : Int32)) (upd (upd s_p0_goes (x_5).toNatClampNeg x_6) ((x_5 + (1 : Int32))).toNatClampNeg (-1 : Int32)))))) ∧ (s_p0_tries = x_3 → (Q (-6 : Int32) s_p0_finding s_p0_tries s_p0_degrees s_p0_findings s_p0_goes s_p0_nears s_p0_otherDegrees s_p0_otherNears s_p0_sent)))) ∧ (x_6 = x_4 → (K_183 (x_5 + (-1 : Int32)) s_p0_tries s_p0_goes)))
def w_X7_alike_265s (x_1 : Int32) (x_2 : Int32) (x_3 : Int32) (x_4 : Int32) (x_5 : Int32) (s_p0_finding : Int32) (s_p0_tries : Int32) (s_p0_degrees : Nat → Int32) (s_p0_findings : Nat → Int32) (s_p0_goes : Nat → Int32) (s_p0_lineCount : Nat → Int32) (s_p0_lines : Nat → Int64) (s_p0_nears : Nat → Int64) (s_p0_otherDegrees : Nat → Int32) (s_p0_otherNears : Nat → Int64) (s_p0_points : Nat → Int32) (s_p0_sent : Nat → Int32) (K_183 : (Int32) → (Int32) → (Nat → Int32) → Prop) (Q : Int32 → (Int32) → (Int32) → (Nat → Int32) → (Nat → Int32) → (Nat → Int32) → (Nat → Int64) → (Nat → Int32) → (Nat → Int64) → (Nat → Int32) → Prop) (K_265 : (Int32) → Prop) (x_6 : Int32) : Prop := ((x_4 ≤ x_6 → (w_X7_alike_289 x_1 x_2 x_3 x_4 x_5 x_6 s_p0_finding s_p0_tries s_p0_degrees s_p0_findings s_p0_goes s_p0_lineCount s_p0_lines s_p0_nears s_p0_otherDegrees s_p0_otherNears s_p0_points s_p0_sent K_183 Q)) ∧ (¬ x_4 ≤ x_6 → (w_X7_maySend x_5 x_6 s_p0_degrees s_p0_goes s_p0_nears s_p0_otherDegrees s_p0_otherNears (fun (r_277 : Int32) => ((¬ r_277 = 0 → (w_X7_alike_289 x_1 x_2 x_3 x_4 x_5 x_6 s_p0_finding s_p0_tries s_p0_degrees s_p0_findings s_p0_goes s_p0_lineCount s_p0_lines s_p0_nears s_p0_otherDegrees s_p0_otherNears s_p0_points s_p0_sent K_183 Q)) ∧ (r_277 = 0 → (K_265 (x_6 + (1 : Int32)))))))))
def w_X7_alike_265 (x_1 : Int32) (x_2 : Int32) (x_3 : Int32) (x_4 : Int32) (x_5 : Int32) (s_p0_finding : Int32) (s_p0_tries : Int32) (s_p0_degrees : Nat → Int32) (s_p0_findings : Nat → Int32) (s_p0_goes : Nat → Int32) (s_p0_lineCount : Nat → Int32) (s_p0_lines : Nat → Int64) (s_p0_nears : Nat → Int64) (s_p0_otherDegrees : Nat → Int32) (s_p0_otherNears : Nat → Int64) (s_p0_points : Nat → Int32) (s_p0_sent : Nat → Int32) (K_183 : (Int32) → (Int32) → (Nat → Int32) → Prop) (Q : Int32 → (Int32) → (Int32) → (Nat → Int32) → (Nat → Int32) → (Nat → Int32) → (Nat → Int64) → (Nat → Int32) → (Nat → Int64) → (Nat → Int32) → Prop) : Nat → (Int32) → Prop
  | 0 => fun _ => False
  | n_ + 1 => w_X7_alike_265s x_1 x_2 x_3 x_4 x_5 s_p0_finding s_p0_tries s_p0_degrees s_p0_findings s_p0_goes s_p0_lineCount s_p0_lines s_p0_nears s_p0_otherDegrees s_p0_otherNears s_p0_points s_p0_sent K_183 Q (w_X7_alike_265 x_1 x_2 x_3 x_4 x_5 s_p0_finding s_p0_tries s_p0_degrees s_p0_findings s_p0_goes s_p0_lineCount s_p0_lines s_p0_nears s_p0_otherDegrees s_p0_otherNears s_p0_points s_p0_sent K_183 Q n_)
def w_X7_alike_239 (x_4 : Int32) (x_6 : Int32) (t_1 : Int32) (t_2 : Int32) (s_p0_finding : Int32) (s_p0_tries : Int32) (s_p0_degrees : Nat → Int32) (s_p0_findings : Nat → Int32) (s_p0_goes : Nat → Int32) (s_p0_lineCount : Nat → Int32) (s_p0_lines : Nat → Int64) (s_p0_nears : Nat → Int64) (s_p0_otherDegrees : Nat → Int32) (s_p0_otherNears : Nat → Int64) (s_p0_points : Nat → Int32) (s_p0_sent : Nat → Int32) (K_207 : (Int32) → (Nat → Int32) → Prop) (Q : Int32 → (Int32) → (Int32) → (Nat → Int32) → (Nat → Int32) → (Nat → Int32) → (Nat → Int64) → (Nat → Int32) → (Nat → Int64) → (Nat → Int32) → Prop) : Prop := (vp_in t_1 45 ∧ (K_207 (x_6 + (1 : Int32)) (upd s_p0_sent (t_1).toNatClampNeg t_2)))
def w_X7_alike_207s (x_4 : Int32) (s_p0_finding : Int32) (s_p0_tries : Int32) (s_p0_degrees : Nat → Int32) (s_p0_findings : Nat → Int32) (s_p0_goes : Nat → Int32) (s_p0_lineCount : Nat → Int32) (s_p0_lines : Nat → Int64) (s_p0_nears : Nat → Int64) (s_p0_otherDegrees : Nat → Int32) (s_p0_otherNears : Nat → Int64) (s_p0_points : Nat → Int32) (Q : Int32 → (Int32) → (Int32) → (Nat → Int32) → (Nat → Int32) → (Nat → Int32) → (Nat → Int64) → (Nat → Int32) → (Nat → Int64) → (Nat → Int32) → Prop) (K_207 : (Int32) → (Nat → Int32) → Prop) (x_6 : Int32) (s_p0_sent : Nat → Int32) : Prop := (((45 : Int32) ≤ x_6 → (Q (1 : Int32) s_p0_finding s_p0_tries s_p0_degrees s_p0_findings s_p0_goes s_p0_nears s_p0_otherDegrees s_p0_otherNears s_p0_sent)) ∧ (¬ (45 : Int32) ≤ x_6 → ((x_4 ≤ x_6 → (w_X7_alike_239 x_4 x_6 x_6 (-9 : Int32) s_p0_finding s_p0_tries s_p0_degrees s_p0_findings s_p0_goes s_p0_lineCount s_p0_lines s_p0_nears s_p0_otherDegrees s_p0_otherNears s_p0_points s_p0_sent K_207 Q)) ∧ (¬ x_4 ≤ x_6 → (vp_in x_6 46 ∧ (w_X7_alike_239 x_4 x_6 x_6 (s_p0_goes (x_6).toNatClampNeg) s_p0_finding s_p0_tries s_p0_degrees s_p0_findings s_p0_goes s_p0_lineCount s_p0_lines s_p0_nears s_p0_otherDegrees s_p0_otherNears s_p0_points s_p0_sent K_207 Q))))))
def w_X7_alike_207 (x_4 : Int32) (s_p0_finding : Int32) (s_p0_tries : Int32) (s_p0_degrees : Nat → Int32) (s_p0_findings : Nat → Int32) (s_p0_goes : Nat → Int32) (s_p0_lineCount : Nat → Int32) (s_p0_lines : Nat → Int64) (s_p0_nears : Nat → Int64) (s_p0_otherDegrees : Nat → Int32) (s_p0_otherNears : Nat → Int64) (s_p0_points : Nat → Int32) (Q : Int32 → (Int32) → (Int32) → (Nat → Int32) → (Nat → Int32) → (Nat → Int32) → (Nat → Int64) → (Nat → Int32) → (Nat → Int64) → (Nat → Int32) → Prop) : Nat → (Int32) → (Nat → Int32) → Prop
  | 0 => fun _ _ => False
  | n_ + 1 => w_X7_alike_207s x_4 s_p0_finding s_p0_tries s_p0_degrees s_p0_findings s_p0_goes s_p0_lineCount s_p0_lines s_p0_nears s_p0_otherDegrees s_p0_otherNears s_p0_points Q (w_X7_alike_207 x_4 s_p0_finding s_p0_tries s_p0_degrees s_p0_findings s_p0_goes s_p0_lineCount s_p0_lines s_p0_nears s_p0_otherDegrees s_p0_otherNears s_p0_points Q n_)
def w_X7_alike_183s (x_1 : Int32) (x_2 : Int32) (x_3 : Int32) (x_4 : Int32) (s_p0_finding : Int32) (s_p0_degrees : Nat → Int32) (s_p0_findings : Nat → Int32) (s_p0_lineCount : Nat → Int32) (s_p0_lines : Nat → Int64) (s_p0_nears : Nat → Int64) (s_p0_otherDegrees : Nat → Int32) (s_p0_otherNears : Nat → Int64) (s_p0_points : Nat → Int32) (s_p0_sent : Nat → Int32) (Q : Int32 → (Int32) → (Int32) → (Nat → Int32) → (Nat → Int32) → (Nat → Int32) → (Nat → Int64) → (Nat → Int32) → (Nat → Int64) → (Nat → Int32) → Prop) (K_183 : (Int32) → (Int32) → (Nat → Int32) → Prop) (x_5 : Int32) (s_p0_tries : Int32) (s_p0_goes : Nat → Int32) : Prop := ((x_5 < 0 → (Q (0 : Int32) s_p0_finding s_p0_tries s_p0_degrees s_p0_findings s_p0_goes s_p0_nears s_p0_otherDegrees s_p0_otherNears s_p0_sent)) ∧ (¬ x_5 < 0 → ((¬ x_5 = x_4 → (vp_in x_5 46 ∧ (∃ n_, w_X7_alike_265 x_1 x_2 x_3 x_4 x_5 s_p0_finding s_p0_tries s_p0_degrees s_p0_findings s_p0_goes s_p0_lineCount s_p0_lines s_p0_nears s_p0_otherDegrees s_p0_otherNears s_p0_points s_p0_sent K_183 Q n_ ((s_p0_goes (x_5).toNatClampNeg) + (1 : Int32))))) ∧ (x_5 = x_4 → (w_X7_isSent x_1 x_2 s_p0_goes s_p0_lineCount s_p0_lines s_p0_points (fun (r_198 : Int32) => ((r_198 = 0 → (K_183 (x_5 + (-1 : Int32)) s_p0_tries s_p0_goes)) ∧ (¬ r_198 = 0 → (∃ n_, w_X7_alike_207 x_4 s_p0_finding s_p0_tries s_p0_degrees s_p0_findings s_p0_goes s_p0_lineCount s_p0_lines s_p0_nears s_p0_otherDegrees s_p0_otherNears s_p0_points Q n_ (0 : Int32) s_p0_sent)))))))))
def w_X7_alike_183 (x_1 : Int32) (x_2 : Int32) (x_3 : Int32) (x_4 : Int32) (s_p0_finding : Int32) (s_p0_degrees : Nat → Int32) (s_p0_findings : Nat → Int32) (s_p0_lineCount : Nat → Int32) (s_p0_lines : Nat → Int64) (s_p0_nears : Nat → Int64) (s_p0_otherDegrees : Nat → Int32) (s_p0_otherNears : Nat → Int64) (s_p0_points : Nat → Int32) (s_p0_sent : Nat → Int32) (Q : Int32 → (Int32) → (Int32) → (Nat → Int32) → (Nat → Int32) → (Nat → Int32) → (Nat → Int64) → (Nat → Int32) → (Nat → Int64) → (Nat → Int32) → Prop) : Nat → (Int32) → (Int32) → (Nat → Int32) → Prop
  | 0 => fun _ _ _ => False
  | n_ + 1 => w_X7_alike_183s x_1 x_2 x_3 x_4 s_p0_finding s_p0_degrees s_p0_findings s_p0_lineCount s_p0_lines s_p0_nears s_p0_otherDegrees s_p0_otherNears s_p0_points s_p0_sent Q (w_X7_alike_183 x_1 x_2 x_3 x_4 s_p0_finding s_p0_degrees s_p0_findings s_p0_lineCount s_p0_lines s_p0_nears s_p0_otherDegrees s_p0_otherNears s_p0_points s_p0_sent Q n_)
def w_X7_alike_98s (x_1 : Int32) (x_2 : Int32) (x_3 : Int32) (x_4 : Int32) (s_p0_finding : Int32) (s_p0_tries : Int32) (s_p0_findings : Nat → Int32) (s_p0_goes : Nat → Int32) (s_p0_lineCount : Nat → Int32) (s_p0_lines : Nat → Int64) (s_p0_points : Nat → Int32) (s_p0_sent : Nat → Int32) (Q : Int32 → (Int32) → (Int32) → (Nat → Int32) → (Nat → Int32) → (Nat → Int32) → (Nat → Int64) → (Nat → Int32) → (Nat → Int64) → (Nat → Int32) → Prop) (K_98 : (Int32) → (Nat → Int32) → (Nat → Int64) → (Nat → Int32) → (Nat → Int64) → Prop) (x_5 : Int32) (s_p0_degrees : Nat → Int32) (s_p0_nears : Nat → Int64) (s_p0_otherDegrees : Nat → Int32) (s_p0_otherNears : Nat → Int64) : Prop := ((x_4 ≤ x_5 → (vp_in (0 : Int32) 46 ∧ (∃ n_, w_X7_alike_183 x_1 x_2 x_3 x_4 s_p0_finding s_p0_degrees s_p0_findings s_p0_lineCount s_p0_lines s_p0_nears s_p0_otherDegrees s_p0_otherNears s_p0_points s_p0_sent Q n_ (0 : Int32) s_p0_tries (upd s_p0_goes ((0 : Int32)).toNatClampNeg (-1 : Int32))))) ∧ (¬ x_4 ≤ x_5 → (w_X7_nearTo x_1 x_5 s_p0_lineCount s_p0_lines (fun (r_115 : Int64) => (vp_in x_5 45 ∧ (w_X7_nearTo x_2 x_5 s_p0_lineCount s_p0_lines (fun (r_129 : Int64) => (vp_in x_5 45 ∧ (w_X7_through x_1 x_5 s_p0_lineCount s_p0_lines (fun (r_143 : Int64) => (w_X7_bits r_143 (fun (r_146 : Int32) => (vp_in x_5 45 ∧ (w_X7_through x_2 x_5 s_p0_lineCount s_p0_lines (fun (r_160 : Int64) => (w_X7_bits r_160 (fun (r_163 : Int32) => (vp_in x_5 45 ∧ (K_98 (x_5 + (1 : Int32)) (upd s_p0_degrees (x_5).toNatClampNeg r_146) (vp_updL s_p0_nears (x_5).toNatClampNeg r_115) (upd s_p0_otherDegrees (x_5).toNatClampNeg r_163) (vp_updL s_p0_otherNears (x_5).toNatClampNeg r_129))))))))))))))))))))
def w_X7_alike_98 (x_1 : Int32) (x_2 : Int32) (x_3 : Int32) (x_4 : Int32) (s_p0_finding : Int32) (s_p0_tries : Int32) (s_p0_findings : Nat → Int32) (s_p0_goes : Nat → Int32) (s_p0_lineCount : Nat → Int32) (s_p0_lines : Nat → Int64) (s_p0_points : Nat → Int32) (s_p0_sent : Nat → Int32) (Q : Int32 → (Int32) → (Int32) → (Nat → Int32) → (Nat → Int32) → (Nat → Int32) → (Nat → Int64) → (Nat → Int32) → (Nat → Int64) → (Nat → Int32) → Prop) : Nat → (Int32) → (Nat → Int32) → (Nat → Int64) → (Nat → Int32) → (Nat → Int64) → Prop
  | 0 => fun _ _ _ _ _ => False
  | n_ + 1 => w_X7_alike_98s x_1 x_2 x_3 x_4 s_p0_finding s_p0_tries s_p0_findings s_p0_goes s_p0_lineCount s_p0_lines s_p0_points s_p0_sent Q (w_X7_alike_98 x_1 x_2 x_3 x_4 s_p0_finding s_p0_tries s_p0_findings s_p0_goes s_p0_lineCount s_p0_lines s_p0_points s_p0_sent Q n_)
def w_X7_alike_85 (s_p0_finding : Int32) (s_p0_tries : Int32) (s_p0_degrees : Nat → Int32) (s_p0_findings : Nat → Int32) (s_p0_goes : Nat → Int32) (s_p0_lineCount : Nat → Int32) (s_p0_lines : Nat → Int64) (s_p0_nears : Nat → Int64) (s_p0_otherDegrees : Nat → Int32) (s_p0_otherNears : Nat → Int64) (s_p0_points : Nat → Int32) (s_p0_sent : Nat → Int32) (Q : Int32 → (Int32) → (Int32) → (Nat → Int32) → (Nat → Int32) → (Nat → Int32) → (Nat → Int64) → (Nat → Int32) → (Nat → Int64) → (Nat → Int32) → Prop) : Prop := (Q (0 : Int32) s_p0_finding s_p0_tries s_p0_degrees s_p0_findings s_p0_goes s_p0_nears s_p0_otherDegrees s_p0_otherNears s_p0_sent)
def w_X7_alike_44 (s_p0_finding : Int32) (s_p0_tries : Int32) (s_p0_degrees : Nat → Int32) (s_p0_findings : Nat → Int32) (s_p0_goes : Nat → Int32) (s_p0_lineCount : Nat → Int32) (s_p0_lines : Nat → Int64) (s_p0_nears : Nat → Int64) (s_p0_otherDegrees : Nat → Int32) (s_p0_otherNears : Nat → Int64) (s_p0_points : Nat → Int32) (s_p0_sent : Nat → Int32) (Q : Int32 → (Int32) → (Int32) → (Nat → Int32) → (Nat → Int32) → (Nat → Int32) → (Nat → Int64) → (Nat → Int32) → (Nat → Int64) → (Nat → Int32) → Prop) : Prop := (w_X7_meets (1 : Int32) s_p0_finding s_p0_findings (fun (r_46 : Int32) (u_46_0 : Int32) (u_46_1 : Nat → Int32) => (Q r_46 u_46_0 s_p0_tries s_p0_degrees u_46_1 s_p0_goes s_p0_nears s_p0_otherDegrees s_p0_otherNears s_p0_sent)))
def w_X7_alike_24 (s_p0_finding : Int32) (s_p0_tries : Int32) (s_p0_degrees : Nat → Int32) (s_p0_findings : Nat → Int32) (s_p0_goes : Nat → Int32) (s_p0_lineCount : Nat → Int32) (s_p0_lines : Nat → Int64) (s_p0_nears : Nat → Int64) (s_p0_otherDegrees : Nat → Int32) (s_p0_otherNears : Nat → Int64) (s_p0_points : Nat → Int32) (s_p0_sent : Nat → Int32) (Q : Int32 → (Int32) → (Int32) → (Nat → Int32) → (Nat → Int32) → (Nat → Int32) → (Nat → Int64) → (Nat → Int32) → (Nat → Int64) → (Nat → Int32) → Prop) : Prop := (Q (-1 : Int32) s_p0_finding s_p0_tries s_p0_degrees s_p0_findings s_p0_goes s_p0_nears s_p0_otherDegrees s_p0_otherNears s_p0_sent)
def w_X7_alike (x_1 : Int32) (x_2 : Int32) (x_3 : Int32) (s_p0_finding : Int32) (s_p0_tries : Int32) (s_p0_degrees : Nat → Int32) (s_p0_findings : Nat → Int32) (s_p0_goes : Nat → Int32) (s_p0_lineCount : Nat → Int32) (s_p0_lines : Nat → Int64) (s_p0_nears : Nat → Int64) (s_p0_otherDegrees : Nat → Int32) (s_p0_otherNears : Nat → Int64) (s_p0_points : Nat → Int32) (s_p0_sent : Nat → Int32) (Q : Int32 → (Int32) → (Int32) → (Nat → Int32) → (Nat → Int32) → (Nat → Int32) → (Nat → Int64) → (Nat → Int32) → (Nat → Int64) → (Nat → Int32) → Prop) : Prop := (w_X7_isNumber x_1 (fun (r_1 : Int32) => ((r_1 = 0 → (w_X7_alike_24 s_p0_finding s_p0_tries s_p0_degrees s_p0_findings s_p0_goes s_p0_lineCount s_p0_lines s_p0_nears s_p0_otherDegrees s_p0_otherNears s_p0_points s_p0_sent Q)) ∧ (¬ r_1 = 0 → (w_X7_isNumber x_2 (fun (r_8 : Int32) => ((r_8 = 0 → (w_X7_alike_24 s_p0_finding s_p0_tries s_p0_degrees s_p0_findings s_p0_goes s_p0_lineCount s_p0_lines s_p0_nears s_p0_otherDegrees s_p0_otherNears s_p0_points s_p0_sent Q)) ∧ (¬ r_8 = 0 → (w_X7_in x_3 (1 : Int32) (100000 : Int32) (fun (r_18 : Int32) => ((¬ r_18 = 0 → (vp_in x_1 6 ∧ (((s_p0_points (x_1).toNatClampNeg) = 0 → (w_X7_alike_44 s_p0_finding s_p0_tries s_p0_degrees s_p0_findings s_p0_goes s_p0_lineCount s_p0_lines s_p0_nears s_p0_otherDegrees s_p0_otherNears s_p0_points s_p0_sent Q)) ∧ (¬ (s_p0_points (x_1).toNatClampNeg) = 0 → (vp_in x_2 6 ∧ ((¬ (s_p0_points (x_2).toNatClampNeg) = 0 → (vp_in x_1 6 ∧ (vp_in x_2 6 ∧ ((¬ (s_p0_points (x_1).toNatClampNeg) = (s_p0_points (x_2).toNatClampNeg) → (w_X7_alike_85 s_p0_finding (0 : Int32) s_p0_degrees s_p0_findings s_p0_goes s_p0_lineCount s_p0_lines s_p0_nears s_p0_otherDegrees s_p0_otherNears s_p0_points s_p0_sent Q)) ∧ ((s_p0_points (x_1).toNatClampNeg) = (s_p0_points (x_2).toNatClampNeg) → (vp_in x_1 6 ∧ (vp_in x_2 6 ∧ (((s_p0_lineCount (x_1).toNatClampNeg) = (s_p0_lineCount (x_2).toNatClampNeg) → (vp_in x_1 6 ∧ (∃ n_, w_X7_alike_98 x_1 x_2 x_3 (s_p0_points (x_1).toNatClampNeg) s_p0_finding (0 : Int32) s_p0_findings s_p0_goes s_p0_lineCount s_p0_lines s_p0_points s_p0_sent Q n_ (0 : Int32) s_p0_degrees s_p0_nears s_p0_otherDegrees s_p0_otherNears))) ∧ (¬ (s_p0_lineCount (x_1).toNatClampNeg) = (s_p0_lineCount (x_2).toNatClampNeg) → (w_X7_alike_85 s_p0_finding (0 : Int32) s_p0_degrees s_p0_findings s_p0_goes s_p0_lineCount s_p0_lines s_p0_nears s_p0_otherDegrees s_p0_otherNears s_p0_points s_p0_sent Q)))))))))) ∧ ((s_p0_points (x_2).toNatClampNeg) = 0 → (w_X7_alike_44 s_p0_finding s_p0_tries s_p0_degrees s_p0_findings s_p0_goes s_p0_lineCount s_p0_lines s_p0_nears s_p0_otherDegrees s_p0_otherNears s_p0_points s_p0_sent Q)))))))) ∧ (r_18 = 0 → (w_X7_alike_24 s_p0_finding s_p0_tries s_p0_degrees s_p0_findings s_p0_goes s_p0_lineCount s_p0_lines s_p0_nears s_p0_otherDegrees s_p0_otherNears s_p0_points s_p0_sent Q)))))))))))))
-- X7_alike
theorem iX7_alike_X7 : ∀ w ∈ wsX70, w ∈ wsX7_alike := by decide +kernel
set_option maxHeartbeats 4000000 in
set_option maxRecDepth 100000 in
theorem k_X7_alike_289 {E : vE} {T : Nat → ClassId} {o_p0 : Nat} {a_p0 : Nat → Nat} {s_p0_finding : Int32} {s_p0_asked : Int64} {s_p0_newPoints : Int32} {s_p0_newLines : Int32} {s_p0_faultAt : Int64} {s_p0_tries : Int32} {s_p0_things : Int32} {s_p0_goals : Int32} {s_p0_level : Int32} {s_p0_degrees : Nat → Int32} {s_p0_findings : Nat → Int32} {s_p0_goes : Nat → Int32} {s_p0_lineCount : Nat → Int32} {s_p0_lines : Nat → Int64} {s_p0_nears : Nat → Int64} {s_p0_otherDegrees : Nat → Int32} {s_p0_otherNears : Nat → Int64} {s_p0_points : Nat → Int32} {s_p0_sent : Nat → Int32} {x_1 : Int32} {x_2 : Int32} {x_3 : Int32} {x_4 : Int32} {x_5 : Int32} {x_6 : Int32} {K_183 : (Int32) → (Int32) → (Nat → Int32) → Prop} {Q : Int32 → (Int32) → (Int32) → (Nat → Int32) → (Nat → Int32) → (Nat → Int32) → (Nat → Int64) → (Nat → Int32) → (Nat → Int64) → (Nat → Int32) → Prop} (X : vX E cX7_alike 7 RX7 wsX7_alike (vT T) (vr 2 51)) (r : r_X7_alike E T o_p0 a_p0 s_p0_asked s_p0_newPoints s_p0_newLines s_p0_faultAt s_p0_things s_p0_goals s_p0_level s_p0_lineCount s_p0_lines s_p0_points Q) (hK_183 : ∀ (x_5' : Int32) (s_p0_tries' : Int32) (s_p0_goes' : Nat → Int32), K_183 x_5' s_p0_tries' s_p0_goes' → V E 0 0 183 [(0, .ref o_p0), (1, .int x_1), (2, .int x_2), (3, .int x_3), (4, .int x_4), (5, .int x_5')] [] (cl_X7_alike T o_p0 a_p0 s_p0_finding s_p0_asked s_p0_newPoints s_p0_newLines s_p0_faultAt s_p0_tries' s_p0_things s_p0_goals s_p0_level s_p0_degrees s_p0_findings s_p0_goes' s_p0_lineCount s_p0_lines s_p0_nears s_p0_otherDegrees s_p0_otherNears s_p0_points s_p0_sent)) (h : w_X7_alike_289 x_1 x_2 x_3 x_4 x_5 x_6 s_p0_finding s_p0_tries s_p0_degrees s_p0_findings s_p0_goes s_p0_lineCount s_p0_lines s_p0_nears s_p0_otherDegrees s_p0_otherNears s_p0_points s_p0_sent K_183 Q) : V E 0 0 289 [(0, .ref o_p0), (1, .int x_1), (2, .int x_2), (3, .int x_3), (4, .int x_4), (5, .int x_5), (6, .int x_6)] [] (cl_X7_alike T o_p0 a_p0 s_p0_finding s_p0_asked s_p0_newPoints s_p0_newLines s_p0_faultAt s_p0_tries s_p0_things s_p0_goals s_p0_level s_p0_degrees s_p0_findings s_p0_goes s_p0_lineCount s_p0_lines s_p0_nears s_p0_otherDegrees s_p0_otherNears s_p0_points s_p0_sent) := by
  unfold w_X7_alike_289 at h
  refine v_iload X 6 dX7_alike_289 rfl ?_
  refine v_iload X 4 dX7_alike_291 rfl ?_
  refine v_icmp_ne X (tgt := 302) dX7_alike_293 (by decide) (fun c_293 => ?_) (fun c_293 => ?_)
  · replace h := h.1 c_293
    refine v_aload_n X 0 dX7_alike_302 rfl rfl ?_
    refine v_get X 0 13 (F := TX7) (N := 33) iX7_alike_X7 rfl rfl (by decide) (List.mem_of_getElem? (i := 3) rfl) rfl rfl dX7_alike_303 ?_
    refine v_iload_n X 3 dX7_alike_306 rfl rfl ?_
    refine v_icmp_ne X (tgt := 313) dX7_alike_307 (by decide) (fun c_307 => ?_) (fun c_307 => ?_)
    · replace h := h.1 c_307
      refine v_aload_n X 0 dX7_alike_313 rfl rfl ?_
      refine v_dup X dX7_alike_314 rfl ?_
      refine v_get X 0 13 (F := TX7) (N := 33) iX7_alike_X7 rfl rfl (by decide) (List.mem_of_getElem? (i := 3) rfl) rfl rfl dX7_alike_315 ?_
      refine v_iconst X dX7_alike_318 (v := (1 : Int32)) (by decide) ?_
      refine v_iadd X dX7_alike_319 ?_
      refine v_put X (ws' := (cl_X7_alike T o_p0 a_p0 s_p0_finding s_p0_asked s_p0_newPoints s_p0_newLines s_p0_faultAt (s_p0_tries + (1 : Int32)) s_p0_things s_p0_goals s_p0_level s_p0_degrees s_p0_findings s_p0_goes s_p0_lineCount s_p0_lines s_p0_nears s_p0_otherDegrees s_p0_otherNears s_p0_points s_p0_sent)) 0 13 (F := TX7) (N := 33) iX7_alike_X7 rfl tyX7 tyX7_ok nmX7 rfl (by decide) (List.mem_of_getElem? (i := 3) rfl) rfl rfl rfl rfl rfl (Nat.le_of_ble_eq_true rfl) rfl dX7_alike_320 ?_
      refine v_aload_n X 0 dX7_alike_323 rfl rfl ?_
      refine v_get X 0 25 (F := TX7) (N := 33) iX7_alike_X7 rfl rfl (by decide) (List.mem_of_getElem? (i := 9) rfl) rfl rfl dX7_alike_324 ?_
      refine v_iload X 5 dX7_alike_327 rfl ?_
      refine v_iload X 6 dX7_alike_329 rfl ?_
      refine v_iast X (ws' := (cl_X7_alike T o_p0 a_p0 s_p0_finding s_p0_asked s_p0_newPoints s_p0_newLines s_p0_faultAt (s_p0_tries + (1 : Int32)) s_p0_things s_p0_goals s_p0_level s_p0_degrees s_p0_findings (upd s_p0_goes (x_5).toNatClampNeg x_6) s_p0_lineCount s_p0_lines s_p0_nears s_p0_otherDegrees s_p0_otherNears s_p0_points s_p0_sent)) 3 0 rfl rfl h.1 rfl dX7_alike_331 ?_
      replace h := h.2
      refine v_iinc X (v := (x_5 + (1 : Int32))) (lv' := [(5, .int (x_5 + (1 : Int32))), (0, .ref o_p0), (1, .int x_1), (2, .int x_2), (3, .int x_3), (4, .int x_4), (6, .int x_6)]) 5 dX7_alike_332 rfl rfl (by decide) rfl ?_
      refine v_aload_n X 1 dX7_alike_335 rfl rfl ?_
      refine v_get X 0 25 (F := TX7) (N := 33) iX7_alike_X7 rfl rfl (by decide) (List.mem_of_getElem? (i := 9) rfl) rfl rfl dX7_alike_336 ?_
      refine v_iload X 0 dX7_alike_339 rfl ?_
      refine v_iconst X dX7_alike_341 (v := (-1 : Int32)) (by decide) ?_
      refine v_iast X (ws' := (cl_X7_alike T o_p0 a_p0 s_p0_finding s_p0_asked s_p0_newPoints s_p0_newLines s_p0_faultAt (s_p0_tries + (1 : Int32)) s_p0_things s_p0_goals s_p0_level s_p0_degrees s_p0_findings (upd (upd s_p0_goes (x_5).toNatClampNeg x_6) ((x_5 + (1 : Int32))).toNatClampNeg (-1 : Int32)) s_p0_lineCount s_p0_lines s_p0_nears s_p0_otherDegrees s_p0_otherNears s_p0_points s_p0_sent)) 3 0 rfl rfl h.1 rfl dX7_alike_342 ?_
      replace h := h.2
      refine v_goto X (tgt := 183) dX7_alike_343 (by decide) ?_
      refine v_lv (lv' := [(0, .ref o_p0), (1, .int x_1), (2, .int x_2), (3, .int x_3), (4, .int x_4), (5, .int (x_5 + (1 : Int32)))]) [1, 2, 3, 4, 5, 0] rfl ?_
      exact hK_183 _ _ _ h
    · replace h := h.2 c_307
      refine v_bipush X dX7_alike_310 (v := (-6 : Int32)) (by decide) ?_
      exact r _ _ _ (s_p0_finding, s_p0_tries, s_p0_degrees, s_p0_findings, s_p0_goes, s_p0_nears, s_p0_otherDegrees, s_p0_otherNears, s_p0_sent) _ dX7_alike_312 h rfl
  · replace h := h.2 c_293
    refine v_iinc X (v := (x_5 + (-1 : Int32))) (lv' := [(5, .int (x_5 + (-1 : Int32))), (0, .ref o_p0), (1, .int x_1), (2, .int x_2), (3, .int x_3), (4, .int x_4), (6, .int x_6)]) 5 dX7_alike_296 rfl rfl (by decide) rfl ?_
    refine v_goto X (tgt := 183) dX7_alike_299 (by decide) ?_
    refine v_lv (lv' := [(0, .ref o_p0), (1, .int x_1), (2, .int x_2), (3, .int x_3), (4, .int x_4), (5, .int (x_5 + (-1 : Int32)))]) [1, 2, 3, 4, 5, 0] rfl ?_
    exact hK_183 _ _ _ h
set_option maxHeartbeats 4000000 in
set_option maxRecDepth 100000 in
theorem k_X7_alike_265 {E : vE} {T : Nat → ClassId} {o_p0 : Nat} {a_p0 : Nat → Nat} {s_p0_finding : Int32} {s_p0_asked : Int64} {s_p0_newPoints : Int32} {s_p0_newLines : Int32} {s_p0_faultAt : Int64} {s_p0_tries : Int32} {s_p0_things : Int32} {s_p0_goals : Int32} {s_p0_level : Int32} {s_p0_degrees : Nat → Int32} {s_p0_findings : Nat → Int32} {s_p0_goes : Nat → Int32} {s_p0_lineCount : Nat → Int32} {s_p0_lines : Nat → Int64} {s_p0_nears : Nat → Int64} {s_p0_otherDegrees : Nat → Int32} {s_p0_otherNears : Nat → Int64} {s_p0_points : Nat → Int32} {s_p0_sent : Nat → Int32} {x_1 : Int32} {x_2 : Int32} {x_3 : Int32} {x_4 : Int32} {x_5 : Int32} {K_183 : (Int32) → (Int32) → (Nat → Int32) → Prop} {Q : Int32 → (Int32) → (Int32) → (Nat → Int32) → (Nat → Int32) → (Nat → Int32) → (Nat → Int64) → (Nat → Int32) → (Nat → Int64) → (Nat → Int32) → Prop} (X : vX E cX7_alike 7 RX7 wsX7_alike (vT T) (vr 2 51)) (r : r_X7_alike E T o_p0 a_p0 s_p0_asked s_p0_newPoints s_p0_newLines s_p0_faultAt s_p0_things s_p0_goals s_p0_level s_p0_lineCount s_p0_lines s_p0_points Q) (hK_183 : ∀ (x_5' : Int32) (s_p0_tries' : Int32) (s_p0_goes' : Nat → Int32), K_183 x_5' s_p0_tries' s_p0_goes' → V E 0 0 183 [(0, .ref o_p0), (1, .int x_1), (2, .int x_2), (3, .int x_3), (4, .int x_4), (5, .int x_5')] [] (cl_X7_alike T o_p0 a_p0 s_p0_finding s_p0_asked s_p0_newPoints s_p0_newLines s_p0_faultAt s_p0_tries' s_p0_things s_p0_goals s_p0_level s_p0_degrees s_p0_findings s_p0_goes' s_p0_lineCount s_p0_lines s_p0_nears s_p0_otherDegrees s_p0_otherNears s_p0_points s_p0_sent)) : ∀ (n_ : Nat) (x_6 : Int32), w_X7_alike_265 x_1 x_2 x_3 x_4 x_5 s_p0_finding s_p0_tries s_p0_degrees s_p0_findings s_p0_goes s_p0_lineCount s_p0_lines s_p0_nears s_p0_otherDegrees s_p0_otherNears s_p0_points s_p0_sent K_183 Q n_ x_6 → V E 0 0 265 [(0, .ref o_p0), (1, .int x_1), (2, .int x_2), (3, .int x_3), (4, .int x_4), (5, .int x_5), (6, .int x_6)] [] (cl_X7_alike T o_p0 a_p0 s_p0_finding s_p0_asked s_p0_newPoints s_p0_newLines s_p0_faultAt s_p0_tries s_p0_things s_p0_goals s_p0_level s_p0_degrees s_p0_findings s_p0_goes s_p0_lineCount s_p0_lines s_p0_nears s_p0_otherDegrees s_p0_otherNears s_p0_points s_p0_sent) := by
  intro n_
  induction n_ with
  | zero => intro x_6 h; exact h.elim
  | succ n_ hK_265 =>
    intro x_6 h
    replace h : w_X7_alike_265s x_1 x_2 x_3 x_4 x_5 s_p0_finding s_p0_tries s_p0_degrees s_p0_findings s_p0_goes s_p0_lineCount s_p0_lines s_p0_nears s_p0_otherDegrees s_p0_otherNears s_p0_points s_p0_sent K_183 Q (w_X7_alike_265 x_1 x_2 x_3 x_4 x_5 s_p0_finding s_p0_tries s_p0_degrees s_p0_findings s_p0_goes s_p0_lineCount s_p0_lines s_p0_nears s_p0_otherDegrees s_p0_otherNears s_p0_points s_p0_sent K_183 Q n_) x_6 := h
    unfold w_X7_alike_265s at h
    refine v_iload X 6 dX7_alike_265 rfl ?_
    refine v_iload X 4 dX7_alike_267 rfl ?_
    refine v_icmp_ge X (tgt := 289) dX7_alike_269 (by decide) (fun c_269 => ?_) (fun c_269 => ?_)
    · replace h := h.1 c_269
      exact k_X7_alike_289 X r hK_183 h
    · replace h := h.2 c_269
      refine v_aload_n X 0 dX7_alike_272 rfl rfl ?_
      refine v_iload X 5 dX7_alike_273 rfl ?_
      refine v_iload X 6 dX7_alike_275 rfl ?_
      refine v_callVi X (As := [.int x_5, .int x_6]) (rest := []) 2 0 (c_X7_maySend (l := vl E) (D := vD E) (T := T) (o_p0 := o_p0) (a_p0 := a_p0) (s_p0_finding := s_p0_finding) (s_p0_asked := s_p0_asked) (s_p0_newPoints := s_p0_newPoints) (s_p0_newLines := s_p0_newLines) (s_p0_faultAt := s_p0_faultAt) (s_p0_tries := s_p0_tries) (s_p0_things := s_p0_things) (s_p0_goals := s_p0_goals) (s_p0_level := s_p0_level) (s_p0_degrees := s_p0_degrees) (s_p0_goes := s_p0_goes) (s_p0_nears := s_p0_nears) (s_p0_otherDegrees := s_p0_otherDegrees) (s_p0_otherNears := s_p0_otherNears) (x_1 := x_5) (x_2 := x_6) h) gX7_alike_X7_maySend rfl rfl (by decide +kernel) ⟨Nat.zero_le _, Nat.zero_le _⟩ ⟨rfl, rfl, by decide, by decide⟩ (Nat.le_of_ble_eq_true rfl) rfl rfl (wr := [vI T (a_p0 1) 6 s_p0_findings, vI T (a_p0 4) 6 s_p0_lineCount, vJ T (a_p0 7) 270 s_p0_lines, vI T (a_p0 3) 6 s_p0_points, vI T (a_p0 24) 45 s_p0_sent]) [0, 1, 3, 6, 7, 8] [2, 4, 5, 9, 10] rfl rfl rfl rfl (by decide) rfl dX7_alike_277 (fun r_277 u h => ?_)
      refine v_ws (ws' := (cl_X7_alike T o_p0 a_p0 s_p0_finding s_p0_asked s_p0_newPoints s_p0_newLines s_p0_faultAt s_p0_tries s_p0_things s_p0_goals s_p0_level s_p0_degrees s_p0_findings s_p0_goes s_p0_lineCount s_p0_lines s_p0_nears s_p0_otherDegrees s_p0_otherNears s_p0_points s_p0_sent)) [5, 6, 0, 7, 1, 2, 8, 9, 10, 3, 4] rfl rfl ?_
      refine v_if_ne X (tgt := 289) dX7_alike_280 (by decide) (fun c_280 => ?_) (fun c_280 => ?_)
      · replace h := h.1 c_280
        exact k_X7_alike_289 X r hK_183 h
      · replace h := h.2 c_280
        refine v_iinc X (v := (x_6 + (1 : Int32))) (lv' := [(6, .int (x_6 + (1 : Int32))), (0, .ref o_p0), (1, .int x_1), (2, .int x_2), (3, .int x_3), (4, .int x_4), (5, .int x_5)]) 6 dX7_alike_283 rfl rfl (by decide) rfl ?_
        refine v_goto X (tgt := 265) dX7_alike_286 (by decide) ?_
        refine v_lv (lv' := [(0, .ref o_p0), (1, .int x_1), (2, .int x_2), (3, .int x_3), (4, .int x_4), (5, .int x_5), (6, .int (x_6 + (1 : Int32)))]) [1, 2, 3, 4, 5, 6, 0] rfl ?_
        exact hK_265 _ h
set_option maxHeartbeats 4000000 in
set_option maxRecDepth 100000 in
theorem k_X7_alike_239 {E : vE} {T : Nat → ClassId} {o_p0 : Nat} {a_p0 : Nat → Nat} {s_p0_finding : Int32} {s_p0_asked : Int64} {s_p0_newPoints : Int32} {s_p0_newLines : Int32} {s_p0_faultAt : Int64} {s_p0_tries : Int32} {s_p0_things : Int32} {s_p0_goals : Int32} {s_p0_level : Int32} {s_p0_degrees : Nat → Int32} {s_p0_findings : Nat → Int32} {s_p0_goes : Nat → Int32} {s_p0_lineCount : Nat → Int32} {s_p0_lines : Nat → Int64} {s_p0_nears : Nat → Int64} {s_p0_otherDegrees : Nat → Int32} {s_p0_otherNears : Nat → Int64} {s_p0_points : Nat → Int32} {s_p0_sent : Nat → Int32} {x_4 : Int32} {x_6 : Int32} {t_1 : Int32} {t_2 : Int32} {K_207 : (Int32) → (Nat → Int32) → Prop} {Q : Int32 → (Int32) → (Int32) → (Nat → Int32) → (Nat → Int32) → (Nat → Int32) → (Nat → Int64) → (Nat → Int32) → (Nat → Int64) → (Nat → Int32) → Prop} (X : vX E cX7_alike 7 RX7 wsX7_alike (vT T) (vr 2 51)) (r : r_X7_alike E T o_p0 a_p0 s_p0_asked s_p0_newPoints s_p0_newLines s_p0_faultAt s_p0_things s_p0_goals s_p0_level s_p0_lineCount s_p0_lines s_p0_points Q) (hK_207 : ∀ (x_6' : Int32) (s_p0_sent' : Nat → Int32), K_207 x_6' s_p0_sent' → V E 0 0 207 [(0, .ref o_p0), (4, .int x_4), (6, .int x_6')] [] (cl_X7_alike T o_p0 a_p0 s_p0_finding s_p0_asked s_p0_newPoints s_p0_newLines s_p0_faultAt s_p0_tries s_p0_things s_p0_goals s_p0_level s_p0_degrees s_p0_findings s_p0_goes s_p0_lineCount s_p0_lines s_p0_nears s_p0_otherDegrees s_p0_otherNears s_p0_points s_p0_sent')) (h : w_X7_alike_239 x_4 x_6 t_1 t_2 s_p0_finding s_p0_tries s_p0_degrees s_p0_findings s_p0_goes s_p0_lineCount s_p0_lines s_p0_nears s_p0_otherDegrees s_p0_otherNears s_p0_points s_p0_sent K_207 Q) : V E 0 0 239 [(0, .ref o_p0), (4, .int x_4), (6, .int x_6)] [.int t_2, .int t_1, .ref (a_p0 24)] (cl_X7_alike T o_p0 a_p0 s_p0_finding s_p0_asked s_p0_newPoints s_p0_newLines s_p0_faultAt s_p0_tries s_p0_things s_p0_goals s_p0_level s_p0_degrees s_p0_findings s_p0_goes s_p0_lineCount s_p0_lines s_p0_nears s_p0_otherDegrees s_p0_otherNears s_p0_points s_p0_sent) := by
  unfold w_X7_alike_239 at h
  refine v_iast X (ws' := (cl_X7_alike T o_p0 a_p0 s_p0_finding s_p0_asked s_p0_newPoints s_p0_newLines s_p0_faultAt s_p0_tries s_p0_things s_p0_goals s_p0_level s_p0_degrees s_p0_findings s_p0_goes s_p0_lineCount s_p0_lines s_p0_nears s_p0_otherDegrees s_p0_otherNears s_p0_points (upd s_p0_sent (t_1).toNatClampNeg t_2))) 10 0 rfl rfl h.1 rfl dX7_alike_239 ?_
  replace h := h.2
  refine v_iinc X (v := (x_6 + (1 : Int32))) (lv' := [(6, .int (x_6 + (1 : Int32))), (0, .ref o_p0), (4, .int x_4)]) 2 dX7_alike_240 rfl rfl (by decide) rfl ?_
  refine v_goto X (tgt := 207) dX7_alike_243 (by decide) ?_
  refine v_lv (lv' := [(0, .ref o_p0), (4, .int x_4), (6, .int (x_6 + (1 : Int32)))]) [1, 2, 0] rfl ?_
  exact hK_207 _ _ h
set_option maxHeartbeats 4000000 in
set_option maxRecDepth 100000 in
theorem k_X7_alike_207 {E : vE} {T : Nat → ClassId} {o_p0 : Nat} {a_p0 : Nat → Nat} {s_p0_finding : Int32} {s_p0_asked : Int64} {s_p0_newPoints : Int32} {s_p0_newLines : Int32} {s_p0_faultAt : Int64} {s_p0_tries : Int32} {s_p0_things : Int32} {s_p0_goals : Int32} {s_p0_level : Int32} {s_p0_degrees : Nat → Int32} {s_p0_findings : Nat → Int32} {s_p0_goes : Nat → Int32} {s_p0_lineCount : Nat → Int32} {s_p0_lines : Nat → Int64} {s_p0_nears : Nat → Int64} {s_p0_otherDegrees : Nat → Int32} {s_p0_otherNears : Nat → Int64} {s_p0_points : Nat → Int32} {x_4 : Int32} {Q : Int32 → (Int32) → (Int32) → (Nat → Int32) → (Nat → Int32) → (Nat → Int32) → (Nat → Int64) → (Nat → Int32) → (Nat → Int64) → (Nat → Int32) → Prop} (X : vX E cX7_alike 7 RX7 wsX7_alike (vT T) (vr 2 51)) (r : r_X7_alike E T o_p0 a_p0 s_p0_asked s_p0_newPoints s_p0_newLines s_p0_faultAt s_p0_things s_p0_goals s_p0_level s_p0_lineCount s_p0_lines s_p0_points Q) : ∀ (n_ : Nat) (x_6 : Int32) (s_p0_sent : Nat → Int32), w_X7_alike_207 x_4 s_p0_finding s_p0_tries s_p0_degrees s_p0_findings s_p0_goes s_p0_lineCount s_p0_lines s_p0_nears s_p0_otherDegrees s_p0_otherNears s_p0_points Q n_ x_6 s_p0_sent → V E 0 0 207 [(0, .ref o_p0), (4, .int x_4), (6, .int x_6)] [] (cl_X7_alike T o_p0 a_p0 s_p0_finding s_p0_asked s_p0_newPoints s_p0_newLines s_p0_faultAt s_p0_tries s_p0_things s_p0_goals s_p0_level s_p0_degrees s_p0_findings s_p0_goes s_p0_lineCount s_p0_lines s_p0_nears s_p0_otherDegrees s_p0_otherNears s_p0_points s_p0_sent) := by
  intro n_
  induction n_ with
  | zero => intro x_6 s_p0_sent h; exact h.elim
  | succ n_ hK_207 =>
    intro x_6 s_p0_sent h
    replace h : w_X7_alike_207s x_4 s_p0_finding s_p0_tries s_p0_degrees s_p0_findings s_p0_goes s_p0_lineCount s_p0_lines s_p0_nears s_p0_otherDegrees s_p0_otherNears s_p0_points Q (w_X7_alike_207 x_4 s_p0_finding s_p0_tries s_p0_degrees s_p0_findings s_p0_goes s_p0_lineCount s_p0_lines s_p0_nears s_p0_otherDegrees s_p0_otherNears s_p0_points Q n_) x_6 s_p0_sent := h
    unfold w_X7_alike_207s at h
    refine v_iload X 2 dX7_alike_207 rfl ?_
    refine v_bipush X dX7_alike_209 (v := (45 : Int32)) (by decide) ?_
    refine v_icmp_ge X (tgt := 246) dX7_alike_211 (by decide) (fun c_211 => ?_) (fun c_211 => ?_)
    · replace h := h.1 c_211
      refine v_iconst X dX7_alike_246 (v := (1 : Int32)) (by decide) ?_
      exact r _ _ _ (s_p0_finding, s_p0_tries, s_p0_degrees, s_p0_findings, s_p0_goes, s_p0_nears, s_p0_otherDegrees, s_p0_otherNears, s_p0_sent) _ dX7_alike_247 h rfl
    · replace h := h.2 c_211
      refine v_aload_n X 0 dX7_alike_214 rfl rfl ?_
      refine v_get X 0 24 (F := TX7) (N := 33) iX7_alike_X7 rfl rfl (by decide) (List.mem_of_getElem? (i := 10) rfl) rfl rfl dX7_alike_215 ?_
      refine v_iload X 2 dX7_alike_218 rfl ?_
      refine v_iload X 2 dX7_alike_220 rfl ?_
      refine v_iload X 1 dX7_alike_222 rfl ?_
      refine v_icmp_ge X (tgt := 237) dX7_alike_224 (by decide) (fun c_224 => ?_) (fun c_224 => ?_)
      · replace h := h.1 c_224
        refine v_bipush X dX7_alike_237 (v := (-9 : Int32)) (by decide) ?_
        exact k_X7_alike_239 X r hK_207 h
      · replace h := h.2 c_224
        refine v_aload_n X 0 dX7_alike_227 rfl rfl ?_
        refine v_get X 0 25 (F := TX7) (N := 33) iX7_alike_X7 rfl rfl (by decide) (List.mem_of_getElem? (i := 9) rfl) rfl rfl dX7_alike_228 ?_
        refine v_iload X 2 dX7_alike_231 rfl ?_
        refine v_iald X 3 0 rfl rfl h.1 dX7_alike_233 ?_
        replace h := h.2
        refine v_goto X (tgt := 239) dX7_alike_234 (by decide) ?_
        exact k_X7_alike_239 X r hK_207 h
set_option maxHeartbeats 4000000 in
set_option maxRecDepth 100000 in
theorem k_X7_alike_183 {E : vE} {T : Nat → ClassId} {o_p0 : Nat} {a_p0 : Nat → Nat} {s_p0_finding : Int32} {s_p0_asked : Int64} {s_p0_newPoints : Int32} {s_p0_newLines : Int32} {s_p0_faultAt : Int64} {s_p0_things : Int32} {s_p0_goals : Int32} {s_p0_level : Int32} {s_p0_degrees : Nat → Int32} {s_p0_findings : Nat → Int32} {s_p0_lineCount : Nat → Int32} {s_p0_lines : Nat → Int64} {s_p0_nears : Nat → Int64} {s_p0_otherDegrees : Nat → Int32} {s_p0_otherNears : Nat → Int64} {s_p0_points : Nat → Int32} {s_p0_sent : Nat → Int32} {x_1 : Int32} {x_2 : Int32} {x_3 : Int32} {x_4 : Int32} {Q : Int32 → (Int32) → (Int32) → (Nat → Int32) → (Nat → Int32) → (Nat → Int32) → (Nat → Int64) → (Nat → Int32) → (Nat → Int64) → (Nat → Int32) → Prop} (X : vX E cX7_alike 7 RX7 wsX7_alike (vT T) (vr 2 51)) (r : r_X7_alike E T o_p0 a_p0 s_p0_asked s_p0_newPoints s_p0_newLines s_p0_faultAt s_p0_things s_p0_goals s_p0_level s_p0_lineCount s_p0_lines s_p0_points Q) : ∀ (n_ : Nat) (x_5 : Int32) (s_p0_tries : Int32) (s_p0_goes : Nat → Int32), w_X7_alike_183 x_1 x_2 x_3 x_4 s_p0_finding s_p0_degrees s_p0_findings s_p0_lineCount s_p0_lines s_p0_nears s_p0_otherDegrees s_p0_otherNears s_p0_points s_p0_sent Q n_ x_5 s_p0_tries s_p0_goes → V E 0 0 183 [(0, .ref o_p0), (1, .int x_1), (2, .int x_2), (3, .int x_3), (4, .int x_4), (5, .int x_5)] [] (cl_X7_alike T o_p0 a_p0 s_p0_finding s_p0_asked s_p0_newPoints s_p0_newLines s_p0_faultAt s_p0_tries s_p0_things s_p0_goals s_p0_level s_p0_degrees s_p0_findings s_p0_goes s_p0_lineCount s_p0_lines s_p0_nears s_p0_otherDegrees s_p0_otherNears s_p0_points s_p0_sent) := by
  intro n_
  induction n_ with
  | zero => intro x_5 s_p0_tries s_p0_goes h; exact h.elim
  | succ n_ hK_183 =>
    intro x_5 s_p0_tries s_p0_goes h
    replace h : w_X7_alike_183s x_1 x_2 x_3 x_4 s_p0_finding s_p0_degrees s_p0_findings s_p0_lineCount s_p0_lines s_p0_nears s_p0_otherDegrees s_p0_otherNears s_p0_points s_p0_sent Q (w_X7_alike_183 x_1 x_2 x_3 x_4 s_p0_finding s_p0_degrees s_p0_findings s_p0_lineCount s_p0_lines s_p0_nears s_p0_otherDegrees s_p0_otherNears s_p0_points s_p0_sent Q n_) x_5 s_p0_tries s_p0_goes := h
    unfold w_X7_alike_183s at h
    refine v_iload X 5 dX7_alike_183 rfl ?_
    refine v_if_lt X (tgt := 346) dX7_alike_185 (by decide) (fun c_185 => ?_) (fun c_185 => ?_)
    · replace h := h.1 c_185
      refine v_iconst X dX7_alike_346 (v := (0 : Int32)) (by decide) ?_
      exact r _ _ _ (s_p0_finding, s_p0_tries, s_p0_degrees, s_p0_findings, s_p0_goes, s_p0_nears, s_p0_otherDegrees, s_p0_otherNears, s_p0_sent) _ dX7_alike_347 h rfl
    · replace h := h.2 c_185
      refine v_iload X 5 dX7_alike_188 rfl ?_
      refine v_iload X 4 dX7_alike_190 rfl ?_
      refine v_icmp_ne X (tgt := 254) dX7_alike_192 (by decide) (fun c_192 => ?_) (fun c_192 => ?_)
      · replace h := h.1 c_192
        refine v_aload_n X 0 dX7_alike_254 rfl rfl ?_
        refine v_get X 0 25 (F := TX7) (N := 33) iX7_alike_X7 rfl rfl (by decide) (List.mem_of_getElem? (i := 9) rfl) rfl rfl dX7_alike_255 ?_
        refine v_iload X 5 dX7_alike_258 rfl ?_
        refine v_iald X 3 0 rfl rfl h.1 dX7_alike_260 ?_
        replace h := h.2
        refine v_iconst X dX7_alike_261 (v := (1 : Int32)) (by decide) ?_
        refine v_iadd X dX7_alike_262 ?_
        refine v_istore X (lv' := [(6, .int ((s_p0_goes (x_5).toNatClampNeg) + (1 : Int32))), (0, .ref o_p0), (1, .int x_1), (2, .int x_2), (3, .int x_3), (4, .int x_4), (5, .int x_5)]) dX7_alike_263 (by decide) rfl ?_
        refine v_lv (lv' := [(0, .ref o_p0), (1, .int x_1), (2, .int x_2), (3, .int x_3), (4, .int x_4), (5, .int x_5), (6, .int ((s_p0_goes (x_5).toNatClampNeg) + (1 : Int32)))]) [1, 2, 3, 4, 5, 6, 0] rfl ?_
        obtain ⟨n_, h⟩ := h
        exact k_X7_alike_265 X r hK_183 n_ _ h
      · replace h := h.2 c_192
        refine v_aload_n X 0 dX7_alike_195 rfl rfl ?_
        refine v_iload_n X 1 dX7_alike_196 rfl rfl ?_
        refine v_iload_n X 2 dX7_alike_197 rfl rfl ?_
        refine v_callVi X (As := [.int x_1, .int x_2]) (rest := []) 2 0 (c_X7_isSent (l := vl E) (D := vD E) (T := T) (o_p0 := o_p0) (a_p0 := a_p0) (s_p0_finding := s_p0_finding) (s_p0_asked := s_p0_asked) (s_p0_newPoints := s_p0_newPoints) (s_p0_newLines := s_p0_newLines) (s_p0_faultAt := s_p0_faultAt) (s_p0_tries := s_p0_tries) (s_p0_things := s_p0_things) (s_p0_goals := s_p0_goals) (s_p0_level := s_p0_level) (s_p0_goes := s_p0_goes) (s_p0_lineCount := s_p0_lineCount) (s_p0_lines := s_p0_lines) (s_p0_points := s_p0_points) (x_1 := x_1) (x_2 := x_2) h) gX7_alike_X7_isSent rfl rfl (by decide +kernel) ⟨Nat.zero_le _, Nat.zero_le _⟩ ⟨rfl, rfl, by decide, by decide⟩ (Nat.le_of_ble_eq_true rfl) rfl rfl (wr := [vI T (a_p0 28) 45 s_p0_degrees, vI T (a_p0 1) 6 s_p0_findings, vJ T (a_p0 26) 45 s_p0_nears, vI T (a_p0 29) 45 s_p0_otherDegrees, vJ T (a_p0 27) 45 s_p0_otherNears, vI T (a_p0 24) 45 s_p0_sent]) [0, 3, 4, 5, 9] [1, 2, 6, 7, 8, 10] rfl rfl rfl rfl (by decide) rfl dX7_alike_198 (fun r_198 u h => ?_)
        refine v_ws (ws' := (cl_X7_alike T o_p0 a_p0 s_p0_finding s_p0_asked s_p0_newPoints s_p0_newLines s_p0_faultAt s_p0_tries s_p0_things s_p0_goals s_p0_level s_p0_degrees s_p0_findings s_p0_goes s_p0_lineCount s_p0_lines s_p0_nears s_p0_otherDegrees s_p0_otherNears s_p0_points s_p0_sent)) [6, 0, 1, 7, 8, 9, 2, 3, 4, 10, 5] rfl rfl ?_
        refine v_if_eq X (tgt := 248) dX7_alike_201 (by decide) (fun c_201 => ?_) (fun c_201 => ?_)
        · replace h := h.1 c_201
          refine v_iinc X (v := (x_5 + (-1 : Int32))) (lv' := [(5, .int (x_5 + (-1 : Int32))), (0, .ref o_p0), (1, .int x_1), (2, .int x_2), (3, .int x_3), (4, .int x_4)]) 5 dX7_alike_248 rfl rfl (by decide) rfl ?_
          refine v_goto X (tgt := 183) dX7_alike_251 (by decide) ?_
          refine v_lv (lv' := [(0, .ref o_p0), (1, .int x_1), (2, .int x_2), (3, .int x_3), (4, .int x_4), (5, .int (x_5 + (-1 : Int32)))]) [1, 2, 3, 4, 5, 0] rfl ?_
          exact hK_183 _ _ _ h
        · replace h := h.2 c_201
          refine v_iconst X dX7_alike_204 (v := (0 : Int32)) (by decide) ?_
          refine v_istore X (lv' := [(6, .int (0 : Int32)), (0, .ref o_p0), (1, .int x_1), (2, .int x_2), (3, .int x_3), (4, .int x_4), (5, .int x_5)]) dX7_alike_205 (by decide) rfl ?_
          refine v_lv (lv' := [(0, .ref o_p0), (4, .int x_4), (6, .int (0 : Int32))]) [1, 5, 0] rfl ?_
          obtain ⟨n_, h⟩ := h
          exact k_X7_alike_207 X r n_ _ _ h
set_option maxHeartbeats 4000000 in
set_option maxRecDepth 100000 in
theorem k_X7_alike_98 {E : vE} {T : Nat → ClassId} {o_p0 : Nat} {a_p0 : Nat → Nat} {s_p0_finding : Int32} {s_p0_asked : Int64} {s_p0_newPoints : Int32} {s_p0_newLines : Int32} {s_p0_faultAt : Int64} {s_p0_tries : Int32} {s_p0_things : Int32} {s_p0_goals : Int32} {s_p0_level : Int32} {s_p0_findings : Nat → Int32} {s_p0_goes : Nat → Int32} {s_p0_lineCount : Nat → Int32} {s_p0_lines : Nat → Int64} {s_p0_points : Nat → Int32} {s_p0_sent : Nat → Int32} {x_1 : Int32} {x_2 : Int32} {x_3 : Int32} {x_4 : Int32} {Q : Int32 → (Int32) → (Int32) → (Nat → Int32) → (Nat → Int32) → (Nat → Int32) → (Nat → Int64) → (Nat → Int32) → (Nat → Int64) → (Nat → Int32) → Prop} (X : vX E cX7_alike 7 RX7 wsX7_alike (vT T) (vr 2 51)) (r : r_X7_alike E T o_p0 a_p0 s_p0_asked s_p0_newPoints s_p0_newLines s_p0_faultAt s_p0_things s_p0_goals s_p0_level s_p0_lineCount s_p0_lines s_p0_points Q) : ∀ (n_ : Nat) (x_5 : Int32) (s_p0_degrees : Nat → Int32) (s_p0_nears : Nat → Int64) (s_p0_otherDegrees : Nat → Int32) (s_p0_otherNears : Nat → Int64), w_X7_alike_98 x_1 x_2 x_3 x_4 s_p0_finding s_p0_tries s_p0_findings s_p0_goes s_p0_lineCount s_p0_lines s_p0_points s_p0_sent Q n_ x_5 s_p0_degrees s_p0_nears s_p0_otherDegrees s_p0_otherNears → V E 0 0 98 [(0, .ref o_p0), (1, .int x_1), (2, .int x_2), (3, .int x_3), (4, .int x_4), (5, .int x_5)] [] (cl_X7_alike T o_p0 a_p0 s_p0_finding s_p0_asked s_p0_newPoints s_p0_newLines s_p0_faultAt s_p0_tries s_p0_things s_p0_goals s_p0_level s_p0_degrees s_p0_findings s_p0_goes s_p0_lineCount s_p0_lines s_p0_nears s_p0_otherDegrees s_p0_otherNears s_p0_points s_p0_sent) := by
  intro n_
  induction n_ with
  | zero => intro x_5 s_p0_degrees s_p0_nears s_p0_otherDegrees s_p0_otherNears h; exact h.elim
  | succ n_ hK_98 =>
    intro x_5 s_p0_degrees s_p0_nears s_p0_otherDegrees s_p0_otherNears h
    replace h : w_X7_alike_98s x_1 x_2 x_3 x_4 s_p0_finding s_p0_tries s_p0_findings s_p0_goes s_p0_lineCount s_p0_lines s_p0_points s_p0_sent Q (w_X7_alike_98 x_1 x_2 x_3 x_4 s_p0_finding s_p0_tries s_p0_findings s_p0_goes s_p0_lineCount s_p0_lines s_p0_points s_p0_sent Q n_) x_5 s_p0_degrees s_p0_nears s_p0_otherDegrees s_p0_otherNears := h
    unfold w_X7_alike_98s at h
    refine v_iload X 5 dX7_alike_98 rfl ?_
    refine v_iload X 4 dX7_alike_100 rfl ?_
    refine v_icmp_ge X (tgt := 173) dX7_alike_102 (by decide) (fun c_102 => ?_) (fun c_102 => ?_)
    · replace h := h.1 c_102
      refine v_iconst X dX7_alike_173 (v := (0 : Int32)) (by decide) ?_
      refine v_istore X (lv' := [(5, .int (0 : Int32)), (0, .ref o_p0), (1, .int x_1), (2, .int x_2), (3, .int x_3), (4, .int x_4)]) dX7_alike_174 (by decide) rfl ?_
      refine v_aload_n X 1 dX7_alike_176 rfl rfl ?_
      refine v_get X 0 25 (F := TX7) (N := 33) iX7_alike_X7 rfl rfl (by decide) (List.mem_of_getElem? (i := 9) rfl) rfl rfl dX7_alike_177 ?_
      refine v_iconst X dX7_alike_180 (v := (0 : Int32)) (by decide) ?_
      refine v_iconst X dX7_alike_181 (v := (-1 : Int32)) (by decide) ?_
      refine v_iast X (ws' := (cl_X7_alike T o_p0 a_p0 s_p0_finding s_p0_asked s_p0_newPoints s_p0_newLines s_p0_faultAt s_p0_tries s_p0_things s_p0_goals s_p0_level s_p0_degrees s_p0_findings (upd s_p0_goes ((0 : Int32)).toNatClampNeg (-1 : Int32)) s_p0_lineCount s_p0_lines s_p0_nears s_p0_otherDegrees s_p0_otherNears s_p0_points s_p0_sent)) 3 0 rfl rfl h.1 rfl dX7_alike_182 ?_
      replace h := h.2
      refine v_lv (lv' := [(0, .ref o_p0), (1, .int x_1), (2, .int x_2), (3, .int x_3), (4, .int x_4), (5, .int (0 : Int32))]) [1, 2, 3, 4, 5, 0] rfl ?_
      obtain ⟨n_, h⟩ := h
      exact k_X7_alike_183 X r n_ _ _ _ h
    · replace h := h.2 c_102
      refine v_aload_n X 0 dX7_alike_105 rfl rfl ?_
      refine v_get X 0 26 (F := TX7) (N := 33) iX7_alike_X7 rfl rfl (by decide) (List.mem_of_getElem? (i := 5) rfl) rfl rfl dX7_alike_106 ?_
      refine v_iload X 5 dX7_alike_109 rfl ?_
      refine v_aload_n X 0 dX7_alike_111 rfl rfl ?_
      refine v_iload_n X 1 dX7_alike_112 rfl rfl ?_
      refine v_iload X 5 dX7_alike_113 rfl ?_
      refine v_callVl X (As := [.int x_1, .int x_5]) (rest := [.int x_5, .ref (a_p0 26)]) 2 0 (c_X7_nearTo (l := vl E) (D := vD E) (T := T) (o_p0 := o_p0) (a_p0 := a_p0) (s_p0_finding := s_p0_finding) (s_p0_asked := s_p0_asked) (s_p0_newPoints := s_p0_newPoints) (s_p0_newLines := s_p0_newLines) (s_p0_faultAt := s_p0_faultAt) (s_p0_tries := s_p0_tries) (s_p0_things := s_p0_things) (s_p0_goals := s_p0_goals) (s_p0_level := s_p0_level) (s_p0_lineCount := s_p0_lineCount) (s_p0_lines := s_p0_lines) (x_1 := x_1) (x_2 := x_5) h) gX7_alike_X7_nearTo rfl rfl (by decide +kernel) ⟨Nat.zero_le _, Nat.zero_le _⟩ ⟨rfl, rfl, by decide, by decide⟩ (Nat.le_of_ble_eq_true rfl) rfl rfl (wr := [vI T (a_p0 28) 45 s_p0_degrees, vI T (a_p0 1) 6 s_p0_findings, vI T (a_p0 25) 46 s_p0_goes, vJ T (a_p0 26) 45 s_p0_nears, vI T (a_p0 29) 45 s_p0_otherDegrees, vJ T (a_p0 27) 45 s_p0_otherNears, vI T (a_p0 3) 6 s_p0_points, vI T (a_p0 24) 45 s_p0_sent]) [0, 4, 5] [1, 2, 3, 6, 7, 8, 9, 10] rfl rfl rfl rfl (by decide) rfl dX7_alike_115 (fun r_115 u h => ?_)
      refine v_ws (ws' := (cl_X7_alike T o_p0 a_p0 s_p0_finding s_p0_asked s_p0_newPoints s_p0_newLines s_p0_faultAt s_p0_tries s_p0_things s_p0_goals s_p0_level s_p0_degrees s_p0_findings s_p0_goes s_p0_lineCount s_p0_lines s_p0_nears s_p0_otherDegrees s_p0_otherNears s_p0_points s_p0_sent)) [8, 0, 1, 2, 9, 10, 3, 4, 5, 6, 7] rfl rfl ?_
      refine v_last X (ws' := (cl_X7_alike T o_p0 a_p0 s_p0_finding s_p0_asked s_p0_newPoints s_p0_newLines s_p0_faultAt s_p0_tries s_p0_things s_p0_goals s_p0_level s_p0_degrees s_p0_findings s_p0_goes s_p0_lineCount s_p0_lines (vp_updL s_p0_nears (x_5).toNatClampNeg r_115) s_p0_otherDegrees s_p0_otherNears s_p0_points s_p0_sent)) 6 1 rfl rfl h.1 rfl dX7_alike_118 ?_
      replace h := h.2
      refine v_aload_n X 0 dX7_alike_119 rfl rfl ?_
      refine v_get X 0 27 (F := TX7) (N := 33) iX7_alike_X7 rfl rfl (by decide) (List.mem_of_getElem? (i := 6) rfl) rfl rfl dX7_alike_120 ?_
      refine v_iload X 5 dX7_alike_123 rfl ?_
      refine v_aload_n X 0 dX7_alike_125 rfl rfl ?_
      refine v_iload_n X 2 dX7_alike_126 rfl rfl ?_
      refine v_iload X 5 dX7_alike_127 rfl ?_
      refine v_callVl X (As := [.int x_2, .int x_5]) (rest := [.int x_5, .ref (a_p0 27)]) 2 0 (c_X7_nearTo (l := vl E) (D := vD E) (T := T) (o_p0 := o_p0) (a_p0 := a_p0) (s_p0_finding := s_p0_finding) (s_p0_asked := s_p0_asked) (s_p0_newPoints := s_p0_newPoints) (s_p0_newLines := s_p0_newLines) (s_p0_faultAt := s_p0_faultAt) (s_p0_tries := s_p0_tries) (s_p0_things := s_p0_things) (s_p0_goals := s_p0_goals) (s_p0_level := s_p0_level) (s_p0_lineCount := s_p0_lineCount) (s_p0_lines := s_p0_lines) (x_1 := x_2) (x_2 := x_5) h) gX7_alike_X7_nearTo rfl rfl (by decide +kernel) ⟨Nat.zero_le _, Nat.zero_le _⟩ ⟨rfl, rfl, by decide, by decide⟩ (Nat.le_of_ble_eq_true rfl) rfl rfl (wr := [vI T (a_p0 28) 45 s_p0_degrees, vI T (a_p0 1) 6 s_p0_findings, vI T (a_p0 25) 46 s_p0_goes, vJ T (a_p0 26) 45 (vp_updL s_p0_nears (x_5).toNatClampNeg r_115), vI T (a_p0 29) 45 s_p0_otherDegrees, vJ T (a_p0 27) 45 s_p0_otherNears, vI T (a_p0 3) 6 s_p0_points, vI T (a_p0 24) 45 s_p0_sent]) [0, 4, 5] [1, 2, 3, 6, 7, 8, 9, 10] rfl rfl rfl rfl (by decide) rfl dX7_alike_129 (fun r_129 u h => ?_)
      refine v_ws (ws' := (cl_X7_alike T o_p0 a_p0 s_p0_finding s_p0_asked s_p0_newPoints s_p0_newLines s_p0_faultAt s_p0_tries s_p0_things s_p0_goals s_p0_level s_p0_degrees s_p0_findings s_p0_goes s_p0_lineCount s_p0_lines (vp_updL s_p0_nears (x_5).toNatClampNeg r_115) s_p0_otherDegrees s_p0_otherNears s_p0_points s_p0_sent)) [8, 0, 1, 2, 9, 10, 3, 4, 5, 6, 7] rfl rfl ?_
      refine v_last X (ws' := (cl_X7_alike T o_p0 a_p0 s_p0_finding s_p0_asked s_p0_newPoints s_p0_newLines s_p0_faultAt s_p0_tries s_p0_things s_p0_goals s_p0_level s_p0_degrees s_p0_findings s_p0_goes s_p0_lineCount s_p0_lines (vp_updL s_p0_nears (x_5).toNatClampNeg r_115) s_p0_otherDegrees (vp_updL s_p0_otherNears (x_5).toNatClampNeg r_129) s_p0_points s_p0_sent)) 8 1 rfl rfl h.1 rfl dX7_alike_132 ?_
      replace h := h.2
      refine v_aload_n X 0 dX7_alike_133 rfl rfl ?_
      refine v_get X 0 28 (F := TX7) (N := 33) iX7_alike_X7 rfl rfl (by decide) (List.mem_of_getElem? (i := 7) rfl) rfl rfl dX7_alike_134 ?_
      refine v_iload X 5 dX7_alike_137 rfl ?_
      refine v_aload_n X 0 dX7_alike_139 rfl rfl ?_
      refine v_iload_n X 1 dX7_alike_140 rfl rfl ?_
      refine v_iload X 5 dX7_alike_141 rfl ?_
      refine v_callVl X (As := [.int x_1, .int x_5]) (rest := [.int x_5, .ref (a_p0 28)]) 2 0 (c_X7_through (l := vl E) (D := vD E) (T := T) (o_p0 := o_p0) (a_p0 := a_p0) (s_p0_finding := s_p0_finding) (s_p0_asked := s_p0_asked) (s_p0_newPoints := s_p0_newPoints) (s_p0_newLines := s_p0_newLines) (s_p0_faultAt := s_p0_faultAt) (s_p0_tries := s_p0_tries) (s_p0_things := s_p0_things) (s_p0_goals := s_p0_goals) (s_p0_level := s_p0_level) (s_p0_lineCount := s_p0_lineCount) (s_p0_lines := s_p0_lines) (x_1 := x_1) (x_2 := x_5) h) gX7_alike_X7_through rfl rfl (by decide +kernel) ⟨Nat.zero_le _, Nat.zero_le _⟩ ⟨rfl, rfl, by decide, by decide⟩ (Nat.le_of_ble_eq_true rfl) rfl rfl (wr := [vI T (a_p0 28) 45 s_p0_degrees, vI T (a_p0 1) 6 s_p0_findings, vI T (a_p0 25) 46 s_p0_goes, vJ T (a_p0 26) 45 (vp_updL s_p0_nears (x_5).toNatClampNeg r_115), vI T (a_p0 29) 45 s_p0_otherDegrees, vJ T (a_p0 27) 45 (vp_updL s_p0_otherNears (x_5).toNatClampNeg r_129), vI T (a_p0 3) 6 s_p0_points, vI T (a_p0 24) 45 s_p0_sent]) [0, 4, 5] [1, 2, 3, 6, 7, 8, 9, 10] rfl rfl rfl rfl (by decide) rfl dX7_alike_143 (fun r_143 u h => ?_)
      refine v_ws (ws' := (cl_X7_alike T o_p0 a_p0 s_p0_finding s_p0_asked s_p0_newPoints s_p0_newLines s_p0_faultAt s_p0_tries s_p0_things s_p0_goals s_p0_level s_p0_degrees s_p0_findings s_p0_goes s_p0_lineCount s_p0_lines (vp_updL s_p0_nears (x_5).toNatClampNeg r_115) s_p0_otherDegrees (vp_updL s_p0_otherNears (x_5).toNatClampNeg r_129) s_p0_points s_p0_sent)) [8, 0, 1, 2, 9, 10, 3, 4, 5, 6, 7] rfl rfl ?_
      refine v_callSi0 X (As := [.long r_143]) (rest := [.int x_5, .ref (a_p0 28)]) 1 (c_X7_bits (l := vl E) (D := vD E) (T := T) (x_0 := r_143) h) gX7_alike_X7_bits rfl rfl (by decide +kernel) ⟨Nat.zero_le _, Nat.zero_le _⟩ ⟨rfl, rfl, by decide, by decide⟩ (Nat.le_of_ble_eq_true rfl) rfl dX7_alike_146 (fun r_146 h => ?_)
      refine v_iast X (ws' := (cl_X7_alike T o_p0 a_p0 s_p0_finding s_p0_asked s_p0_newPoints s_p0_newLines s_p0_faultAt s_p0_tries s_p0_things s_p0_goals s_p0_level (upd s_p0_degrees (x_5).toNatClampNeg r_146) s_p0_findings s_p0_goes s_p0_lineCount s_p0_lines (vp_updL s_p0_nears (x_5).toNatClampNeg r_115) s_p0_otherDegrees (vp_updL s_p0_otherNears (x_5).toNatClampNeg r_129) s_p0_points s_p0_sent)) 1 0 rfl rfl h.1 rfl dX7_alike_149 ?_
      replace h := h.2
      refine v_aload_n X 0 dX7_alike_150 rfl rfl ?_
      refine v_get X 0 29 (F := TX7) (N := 33) iX7_alike_X7 rfl rfl (by decide) (List.mem_of_getElem? (i := 8) rfl) rfl rfl dX7_alike_151 ?_
      refine v_iload X 5 dX7_alike_154 rfl ?_
      refine v_aload_n X 0 dX7_alike_156 rfl rfl ?_
      refine v_iload_n X 2 dX7_alike_157 rfl rfl ?_
      refine v_iload X 5 dX7_alike_158 rfl ?_
      refine v_callVl X (As := [.int x_2, .int x_5]) (rest := [.int x_5, .ref (a_p0 29)]) 2 0 (c_X7_through (l := vl E) (D := vD E) (T := T) (o_p0 := o_p0) (a_p0 := a_p0) (s_p0_finding := s_p0_finding) (s_p0_asked := s_p0_asked) (s_p0_newPoints := s_p0_newPoints) (s_p0_newLines := s_p0_newLines) (s_p0_faultAt := s_p0_faultAt) (s_p0_tries := s_p0_tries) (s_p0_things := s_p0_things) (s_p0_goals := s_p0_goals) (s_p0_level := s_p0_level) (s_p0_lineCount := s_p0_lineCount) (s_p0_lines := s_p0_lines) (x_1 := x_2) (x_2 := x_5) h) gX7_alike_X7_through rfl rfl (by decide +kernel) ⟨Nat.zero_le _, Nat.zero_le _⟩ ⟨rfl, rfl, by decide, by decide⟩ (Nat.le_of_ble_eq_true rfl) rfl rfl (wr := [vI T (a_p0 28) 45 (upd s_p0_degrees (x_5).toNatClampNeg r_146), vI T (a_p0 1) 6 s_p0_findings, vI T (a_p0 25) 46 s_p0_goes, vJ T (a_p0 26) 45 (vp_updL s_p0_nears (x_5).toNatClampNeg r_115), vI T (a_p0 29) 45 s_p0_otherDegrees, vJ T (a_p0 27) 45 (vp_updL s_p0_otherNears (x_5).toNatClampNeg r_129), vI T (a_p0 3) 6 s_p0_points, vI T (a_p0 24) 45 s_p0_sent]) [0, 4, 5] [1, 2, 3, 6, 7, 8, 9, 10] rfl rfl rfl rfl (by decide) rfl dX7_alike_160 (fun r_160 u h => ?_)
      refine v_ws (ws' := (cl_X7_alike T o_p0 a_p0 s_p0_finding s_p0_asked s_p0_newPoints s_p0_newLines s_p0_faultAt s_p0_tries s_p0_things s_p0_goals s_p0_level (upd s_p0_degrees (x_5).toNatClampNeg r_146) s_p0_findings s_p0_goes s_p0_lineCount s_p0_lines (vp_updL s_p0_nears (x_5).toNatClampNeg r_115) s_p0_otherDegrees (vp_updL s_p0_otherNears (x_5).toNatClampNeg r_129) s_p0_points s_p0_sent)) [8, 0, 1, 2, 9, 10, 3, 4, 5, 6, 7] rfl rfl ?_
      refine v_callSi0 X (As := [.long r_160]) (rest := [.int x_5, .ref (a_p0 29)]) 1 (c_X7_bits (l := vl E) (D := vD E) (T := T) (x_0 := r_160) h) gX7_alike_X7_bits rfl rfl (by decide +kernel) ⟨Nat.zero_le _, Nat.zero_le _⟩ ⟨rfl, rfl, by decide, by decide⟩ (Nat.le_of_ble_eq_true rfl) rfl dX7_alike_163 (fun r_163 h => ?_)
      refine v_iast X (ws' := (cl_X7_alike T o_p0 a_p0 s_p0_finding s_p0_asked s_p0_newPoints s_p0_newLines s_p0_faultAt s_p0_tries s_p0_things s_p0_goals s_p0_level (upd s_p0_degrees (x_5).toNatClampNeg r_146) s_p0_findings s_p0_goes s_p0_lineCount s_p0_lines (vp_updL s_p0_nears (x_5).toNatClampNeg r_115) (upd s_p0_otherDegrees (x_5).toNatClampNeg r_163) (vp_updL s_p0_otherNears (x_5).toNatClampNeg r_129) s_p0_points s_p0_sent)) 7 0 rfl rfl h.1 rfl dX7_alike_166 ?_
      replace h := h.2
      refine v_iinc X (v := (x_5 + (1 : Int32))) (lv' := [(5, .int (x_5 + (1 : Int32))), (0, .ref o_p0), (1, .int x_1), (2, .int x_2), (3, .int x_3), (4, .int x_4)]) 5 dX7_alike_167 rfl rfl (by decide) rfl ?_
      refine v_goto X (tgt := 98) dX7_alike_170 (by decide) ?_
      refine v_lv (lv' := [(0, .ref o_p0), (1, .int x_1), (2, .int x_2), (3, .int x_3), (4, .int x_4), (5, .int (x_5 + (1 : Int32)))]) [1, 2, 3, 4, 5, 0] rfl ?_
      exact hK_98 _ _ _ _ _ h
set_option maxHeartbeats 4000000 in
set_option maxRecDepth 100000 in
theorem k_X7_alike_85 {E : vE} {T : Nat → ClassId} {o_p0 : Nat} {a_p0 : Nat → Nat} {s_p0_finding : Int32} {s_p0_asked : Int64} {s_p0_newPoints : Int32} {s_p0_newLines : Int32} {s_p0_faultAt : Int64} {s_p0_tries : Int32} {s_p0_things : Int32} {s_p0_goals : Int32} {s_p0_level : Int32} {s_p0_degrees : Nat → Int32} {s_p0_findings : Nat → Int32} {s_p0_goes : Nat → Int32} {s_p0_lineCount : Nat → Int32} {s_p0_lines : Nat → Int64} {s_p0_nears : Nat → Int64} {s_p0_otherDegrees : Nat → Int32} {s_p0_otherNears : Nat → Int64} {s_p0_points : Nat → Int32} {s_p0_sent : Nat → Int32} {Q : Int32 → (Int32) → (Int32) → (Nat → Int32) → (Nat → Int32) → (Nat → Int32) → (Nat → Int64) → (Nat → Int32) → (Nat → Int64) → (Nat → Int32) → Prop} (X : vX E cX7_alike 7 RX7 wsX7_alike (vT T) (vr 2 51)) (r : r_X7_alike E T o_p0 a_p0 s_p0_asked s_p0_newPoints s_p0_newLines s_p0_faultAt s_p0_things s_p0_goals s_p0_level s_p0_lineCount s_p0_lines s_p0_points Q) (h : w_X7_alike_85 s_p0_finding s_p0_tries s_p0_degrees s_p0_findings s_p0_goes s_p0_lineCount s_p0_lines s_p0_nears s_p0_otherDegrees s_p0_otherNears s_p0_points s_p0_sent Q) : V E 0 0 85 [] [] (cl_X7_alike T o_p0 a_p0 s_p0_finding s_p0_asked s_p0_newPoints s_p0_newLines s_p0_faultAt s_p0_tries s_p0_things s_p0_goals s_p0_level s_p0_degrees s_p0_findings s_p0_goes s_p0_lineCount s_p0_lines s_p0_nears s_p0_otherDegrees s_p0_otherNears s_p0_points s_p0_sent) := by
  unfold w_X7_alike_85 at h
  refine v_iconst X dX7_alike_85 (v := (0 : Int32)) (by decide) ?_
  exact r _ _ _ (s_p0_finding, s_p0_tries, s_p0_degrees, s_p0_findings, s_p0_goes, s_p0_nears, s_p0_otherDegrees, s_p0_otherNears, s_p0_sent) _ dX7_alike_86 h rfl
set_option maxHeartbeats 4000000 in
set_option maxRecDepth 100000 in
theorem k_X7_alike_44 {E : vE} {T : Nat → ClassId} {o_p0 : Nat} {a_p0 : Nat → Nat} {s_p0_finding : Int32} {s_p0_asked : Int64} {s_p0_newPoints : Int32} {s_p0_newLines : Int32} {s_p0_faultAt : Int64} {s_p0_tries : Int32} {s_p0_things : Int32} {s_p0_goals : Int32} {s_p0_level : Int32} {s_p0_degrees : Nat → Int32} {s_p0_findings : Nat → Int32} {s_p0_goes : Nat → Int32} {s_p0_lineCount : Nat → Int32} {s_p0_lines : Nat → Int64} {s_p0_nears : Nat → Int64} {s_p0_otherDegrees : Nat → Int32} {s_p0_otherNears : Nat → Int64} {s_p0_points : Nat → Int32} {s_p0_sent : Nat → Int32} {Q : Int32 → (Int32) → (Int32) → (Nat → Int32) → (Nat → Int32) → (Nat → Int32) → (Nat → Int64) → (Nat → Int32) → (Nat → Int64) → (Nat → Int32) → Prop} (X : vX E cX7_alike 7 RX7 wsX7_alike (vT T) (vr 2 51)) (r : r_X7_alike E T o_p0 a_p0 s_p0_asked s_p0_newPoints s_p0_newLines s_p0_faultAt s_p0_things s_p0_goals s_p0_level s_p0_lineCount s_p0_lines s_p0_points Q) (h : w_X7_alike_44 s_p0_finding s_p0_tries s_p0_degrees s_p0_findings s_p0_goes s_p0_lineCount s_p0_lines s_p0_nears s_p0_otherDegrees s_p0_otherNears s_p0_points s_p0_sent Q) : V E 0 0 44 [(0, .ref o_p0)] [] (cl_X7_alike T o_p0 a_p0 s_p0_finding s_p0_asked s_p0_newPoints s_p0_newLines s_p0_faultAt s_p0_tries s_p0_things s_p0_goals s_p0_level s_p0_degrees s_p0_findings s_p0_goes s_p0_lineCount s_p0_lines s_p0_nears s_p0_otherDegrees s_p0_otherNears s_p0_points s_p0_sent) := by
  unfold w_X7_alike_44 at h
  refine v_aload_n X 0 dX7_alike_44 rfl rfl ?_
  refine v_iconst X dX7_alike_45 (v := (1 : Int32)) (by decide) ?_
  refine v_callVi X (As := [.int (1 : Int32)]) (rest := []) 1 0 (c_X7_meets (l := vl E) (D := vD E) (T := T) (o_p0 := o_p0) (a_p0 := a_p0) (s_p0_finding := s_p0_finding) (s_p0_asked := s_p0_asked) (s_p0_newPoints := s_p0_newPoints) (s_p0_newLines := s_p0_newLines) (s_p0_faultAt := s_p0_faultAt) (s_p0_tries := s_p0_tries) (s_p0_things := s_p0_things) (s_p0_goals := s_p0_goals) (s_p0_level := s_p0_level) (s_p0_findings := s_p0_findings) (x_1 := (1 : Int32)) h) gX7_alike_X7_meets rfl rfl (by decide +kernel) ⟨Nat.zero_le _, Nat.zero_le _⟩ ⟨rfl, rfl, by decide, by decide⟩ (Nat.le_of_ble_eq_true rfl) rfl rfl (wr := [vI T (a_p0 28) 45 s_p0_degrees, vI T (a_p0 25) 46 s_p0_goes, vI T (a_p0 4) 6 s_p0_lineCount, vJ T (a_p0 7) 270 s_p0_lines, vJ T (a_p0 26) 45 s_p0_nears, vI T (a_p0 29) 45 s_p0_otherDegrees, vJ T (a_p0 27) 45 s_p0_otherNears, vI T (a_p0 3) 6 s_p0_points, vI T (a_p0 24) 45 s_p0_sent]) [0, 2] [1, 3, 4, 5, 6, 7, 8, 9, 10] rfl rfl rfl rfl (by decide) rfl dX7_alike_46 (fun r_46 u h => ?_)
  obtain ⟨u_46_0, u_46_1⟩ := u
  dsimp only at h
  refine v_ws (ws' := (cl_X7_alike T o_p0 a_p0 u_46_0 s_p0_asked s_p0_newPoints s_p0_newLines s_p0_faultAt s_p0_tries s_p0_things s_p0_goals s_p0_level s_p0_degrees u_46_1 s_p0_goes s_p0_lineCount s_p0_lines s_p0_nears s_p0_otherDegrees s_p0_otherNears s_p0_points s_p0_sent)) [9, 0, 10, 1, 2, 3, 4, 5, 6, 7, 8] rfl rfl ?_
  exact r _ _ _ (u_46_0, s_p0_tries, s_p0_degrees, u_46_1, s_p0_goes, s_p0_nears, s_p0_otherDegrees, s_p0_otherNears, s_p0_sent) _ dX7_alike_49 h rfl
set_option maxHeartbeats 4000000 in
set_option maxRecDepth 100000 in
theorem k_X7_alike_24 {E : vE} {T : Nat → ClassId} {o_p0 : Nat} {a_p0 : Nat → Nat} {s_p0_finding : Int32} {s_p0_asked : Int64} {s_p0_newPoints : Int32} {s_p0_newLines : Int32} {s_p0_faultAt : Int64} {s_p0_tries : Int32} {s_p0_things : Int32} {s_p0_goals : Int32} {s_p0_level : Int32} {s_p0_degrees : Nat → Int32} {s_p0_findings : Nat → Int32} {s_p0_goes : Nat → Int32} {s_p0_lineCount : Nat → Int32} {s_p0_lines : Nat → Int64} {s_p0_nears : Nat → Int64} {s_p0_otherDegrees : Nat → Int32} {s_p0_otherNears : Nat → Int64} {s_p0_points : Nat → Int32} {s_p0_sent : Nat → Int32} {Q : Int32 → (Int32) → (Int32) → (Nat → Int32) → (Nat → Int32) → (Nat → Int32) → (Nat → Int64) → (Nat → Int32) → (Nat → Int64) → (Nat → Int32) → Prop} (X : vX E cX7_alike 7 RX7 wsX7_alike (vT T) (vr 2 51)) (r : r_X7_alike E T o_p0 a_p0 s_p0_asked s_p0_newPoints s_p0_newLines s_p0_faultAt s_p0_things s_p0_goals s_p0_level s_p0_lineCount s_p0_lines s_p0_points Q) (h : w_X7_alike_24 s_p0_finding s_p0_tries s_p0_degrees s_p0_findings s_p0_goes s_p0_lineCount s_p0_lines s_p0_nears s_p0_otherDegrees s_p0_otherNears s_p0_points s_p0_sent Q) : V E 0 0 24 [] [] (cl_X7_alike T o_p0 a_p0 s_p0_finding s_p0_asked s_p0_newPoints s_p0_newLines s_p0_faultAt s_p0_tries s_p0_things s_p0_goals s_p0_level s_p0_degrees s_p0_findings s_p0_goes s_p0_lineCount s_p0_lines s_p0_nears s_p0_otherDegrees s_p0_otherNears s_p0_points s_p0_sent) := by
  unfold w_X7_alike_24 at h
  refine v_iconst X dX7_alike_24 (v := (-1 : Int32)) (by decide) ?_
  exact r _ _ _ (s_p0_finding, s_p0_tries, s_p0_degrees, s_p0_findings, s_p0_goes, s_p0_nears, s_p0_otherDegrees, s_p0_otherNears, s_p0_sent) _ dX7_alike_25 h rfl
set_option maxHeartbeats 4000000 in
set_option maxRecDepth 100000 in
theorem c_X7_alike {l : Launch} {D : va_G} {T : Nat → ClassId} {o_p0 : Nat} {a_p0 : Nat → Nat} {s_p0_finding : Int32} {s_p0_asked : Int64} {s_p0_newPoints : Int32} {s_p0_newLines : Int32} {s_p0_faultAt : Int64} {s_p0_tries : Int32} {s_p0_things : Int32} {s_p0_goals : Int32} {s_p0_level : Int32} {s_p0_degrees : Nat → Int32} {s_p0_findings : Nat → Int32} {s_p0_goes : Nat → Int32} {s_p0_lineCount : Nat → Int32} {s_p0_lines : Nat → Int64} {s_p0_nears : Nat → Int64} {s_p0_otherDegrees : Nat → Int32} {s_p0_otherNears : Nat → Int64} {s_p0_points : Nat → Int32} {s_p0_sent : Nat → Int32} {x_1 : Int32} {x_2 : Int32} {x_3 : Int32} {Q : Int32 → (Int32) → (Int32) → (Nat → Int32) → (Nat → Int32) → (Nat → Int32) → (Nat → Int64) → (Nat → Int32) → (Nat → Int64) → (Nat → Int32) → Prop} (h : w_X7_alike x_1 x_2 x_3 s_p0_finding s_p0_tries s_p0_degrees s_p0_findings s_p0_goes s_p0_lineCount s_p0_lines s_p0_nears s_p0_otherDegrees s_p0_otherNears s_p0_points s_p0_sent Q) : vCi l D (vT T) yX7_alike wsX7_alike (vr 2 51) [.ref o_p0, .int x_1, .int x_2, .int x_3] (cl_X7_alike T o_p0 a_p0 s_p0_finding s_p0_asked s_p0_newPoints s_p0_newLines s_p0_faultAt s_p0_tries s_p0_things s_p0_goals s_p0_level s_p0_degrees s_p0_findings s_p0_goes s_p0_lineCount s_p0_lines s_p0_nears s_p0_otherDegrees s_p0_otherNears s_p0_points s_p0_sent) (fun v (u : (Int32) × (Int32) × (Nat → Int32) × (Nat → Int32) × (Nat → Int32) × (Nat → Int64) × (Nat → Int32) × (Nat → Int64) × (Nat → Int32)) => Q v u.1 u.2.1 u.2.2.1 u.2.2.2.1 u.2.2.2.2.1 u.2.2.2.2.2.1 u.2.2.2.2.2.2.1 u.2.2.2.2.2.2.2.1 u.2.2.2.2.2.2.2.2) (fun (u : (Int32) × (Int32) × (Nat → Int32) × (Nat → Int32) × (Nat → Int32) × (Nat → Int64) × (Nat → Int32) × (Nat → Int64) × (Nat → Int32)) => (cl_X7_alike T o_p0 a_p0 u.1 s_p0_asked s_p0_newPoints s_p0_newLines s_p0_faultAt u.2.1 s_p0_things s_p0_goals s_p0_level u.2.2.1 u.2.2.2.1 u.2.2.2.2.1 s_p0_lineCount s_p0_lines u.2.2.2.2.2.1 u.2.2.2.2.2.2.1 u.2.2.2.2.2.2.2.1 s_p0_points u.2.2.2.2.2.2.2.2)) := by
  refine vC_i (cc := cX7_alike) (nL := 7) (by decide +kernel) rfl ⟨rfl, rfl⟩ (Nat.le_of_ble_eq_true rfl) rfl ?_
  intro E el eD X r
  unfold w_X7_alike at h
  refine v_iload_n X 1 dX7_alike_0 rfl rfl ?_
  refine v_callSi0 X (As := [.int x_1]) (rest := []) 1 (c_X7_isNumber (l := vl E) (D := vD E) (T := T) (x_0 := x_1) h) gX7_alike_X7_isNumber rfl rfl (by decide +kernel) ⟨Nat.zero_le _, Nat.zero_le _⟩ ⟨rfl, rfl, by decide, by decide⟩ (Nat.le_of_ble_eq_true rfl) rfl dX7_alike_1 (fun r_1 h => ?_)
  refine v_if_eq X (tgt := 24) dX7_alike_4 (by decide) (fun c_4 => ?_) (fun c_4 => ?_)
  · replace h := h.1 c_4
    refine v_lv (lv' := []) [] rfl ?_
    exact k_X7_alike_24 X r h
  · replace h := h.2 c_4
    refine v_iload_n X 2 dX7_alike_7 rfl rfl ?_
    refine v_callSi0 X (As := [.int x_2]) (rest := []) 1 (c_X7_isNumber (l := vl E) (D := vD E) (T := T) (x_0 := x_2) h) gX7_alike_X7_isNumber rfl rfl (by decide +kernel) ⟨Nat.zero_le _, Nat.zero_le _⟩ ⟨rfl, rfl, by decide, by decide⟩ (Nat.le_of_ble_eq_true rfl) rfl dX7_alike_8 (fun r_8 h => ?_)
    refine v_if_eq X (tgt := 24) dX7_alike_11 (by decide) (fun c_11 => ?_) (fun c_11 => ?_)
    · replace h := h.1 c_11
      refine v_lv (lv' := []) [] rfl ?_
      exact k_X7_alike_24 X r h
    · replace h := h.2 c_11
      refine v_iload_n X 3 dX7_alike_14 rfl rfl ?_
      refine v_iconst X dX7_alike_15 (v := (1 : Int32)) (by decide) ?_
      refine v_ldc X (v := (100000 : Int32)) (List.mem_of_getElem? (i := 1) rfl) dX7_alike_16 ?_
      refine v_callSi0 X (As := [.int x_3, .int (1 : Int32), .int (100000 : Int32)]) (rest := []) 3 (c_X7_in (l := vl E) (D := vD E) (T := T) (x_0 := x_3) (x_1 := (1 : Int32)) (x_2 := (100000 : Int32)) h) gX7_alike_X7_in rfl rfl (by decide +kernel) ⟨Nat.zero_le _, Nat.zero_le _⟩ ⟨rfl, rfl, by decide, by decide⟩ (Nat.le_of_ble_eq_true rfl) rfl dX7_alike_18 (fun r_18 h => ?_)
      refine v_if_ne X (tgt := 26) dX7_alike_21 (by decide) (fun c_21 => ?_) (fun c_21 => ?_)
      · replace h := h.1 c_21
        refine v_aload_n X 0 dX7_alike_26 rfl rfl ?_
        refine v_get X 0 3 (F := TX7) (N := 33) iX7_alike_X7 rfl rfl (by decide) (List.mem_of_getElem? (i := 2) rfl) rfl rfl dX7_alike_27 ?_
        refine v_iload_n X 1 dX7_alike_30 rfl rfl ?_
        refine v_iald X 9 0 rfl rfl h.1 dX7_alike_31 ?_
        replace h := h.2
        refine v_if_eq X (tgt := 44) dX7_alike_32 (by decide) (fun c_32 => ?_) (fun c_32 => ?_)
        · replace h := h.1 c_32
          refine v_lv (lv' := [(0, .ref o_p0)]) [0] rfl ?_
          exact k_X7_alike_44 X r h
        · replace h := h.2 c_32
          refine v_aload_n X 0 dX7_alike_35 rfl rfl ?_
          refine v_get X 0 3 (F := TX7) (N := 33) iX7_alike_X7 rfl rfl (by decide) (List.mem_of_getElem? (i := 2) rfl) rfl rfl dX7_alike_36 ?_
          refine v_iload_n X 2 dX7_alike_39 rfl rfl ?_
          refine v_iald X 9 0 rfl rfl h.1 dX7_alike_40 ?_
          replace h := h.2
          refine v_if_ne X (tgt := 50) dX7_alike_41 (by decide) (fun c_41 => ?_) (fun c_41 => ?_)
          · replace h := h.1 c_41
            refine v_aload_n X 0 dX7_alike_50 rfl rfl ?_
            refine v_iconst X dX7_alike_51 (v := (0 : Int32)) (by decide) ?_
            refine v_put X (ws' := (cl_X7_alike T o_p0 a_p0 s_p0_finding s_p0_asked s_p0_newPoints s_p0_newLines s_p0_faultAt (0 : Int32) s_p0_things s_p0_goals s_p0_level s_p0_degrees s_p0_findings s_p0_goes s_p0_lineCount s_p0_lines s_p0_nears s_p0_otherDegrees s_p0_otherNears s_p0_points s_p0_sent)) 0 13 (F := TX7) (N := 33) iX7_alike_X7 rfl tyX7 tyX7_ok nmX7 rfl (by decide) (List.mem_of_getElem? (i := 3) rfl) rfl rfl rfl rfl rfl (Nat.le_of_ble_eq_true rfl) rfl dX7_alike_52 ?_
            refine v_aload_n X 0 dX7_alike_55 rfl rfl ?_
            refine v_get X 0 3 (F := TX7) (N := 33) iX7_alike_X7 rfl rfl (by decide) (List.mem_of_getElem? (i := 2) rfl) rfl rfl dX7_alike_56 ?_
            refine v_iload_n X 1 dX7_alike_59 rfl rfl ?_
            refine v_iald X 9 0 rfl rfl h.1 dX7_alike_60 ?_
            replace h := h.2
            refine v_aload_n X 0 dX7_alike_61 rfl rfl ?_
            refine v_get X 0 3 (F := TX7) (N := 33) iX7_alike_X7 rfl rfl (by decide) (List.mem_of_getElem? (i := 2) rfl) rfl rfl dX7_alike_62 ?_
            refine v_iload_n X 2 dX7_alike_65 rfl rfl ?_
            refine v_iald X 9 0 rfl rfl h.1 dX7_alike_66 ?_
            replace h := h.2
            refine v_icmp_ne X (tgt := 85) dX7_alike_67 (by decide) (fun c_67 => ?_) (fun c_67 => ?_)
            · replace h := h.1 c_67
              refine v_lv (lv' := []) [] rfl ?_
              exact k_X7_alike_85 X r h
            · replace h := h.2 c_67
              refine v_aload_n X 0 dX7_alike_70 rfl rfl ?_
              refine v_get X 0 4 (F := TX7) (N := 33) iX7_alike_X7 rfl rfl (by decide) (List.mem_of_getElem? (i := 4) rfl) rfl rfl dX7_alike_71 ?_
              refine v_iload_n X 1 dX7_alike_74 rfl rfl ?_
              refine v_iald X 4 0 rfl rfl h.1 dX7_alike_75 ?_
              replace h := h.2
              refine v_aload_n X 0 dX7_alike_76 rfl rfl ?_
              refine v_get X 0 4 (F := TX7) (N := 33) iX7_alike_X7 rfl rfl (by decide) (List.mem_of_getElem? (i := 4) rfl) rfl rfl dX7_alike_77 ?_
              refine v_iload_n X 2 dX7_alike_80 rfl rfl ?_
              refine v_iald X 4 0 rfl rfl h.1 dX7_alike_81 ?_
              replace h := h.2
              refine v_icmp_eq X (tgt := 87) dX7_alike_82 (by decide) (fun c_82 => ?_) (fun c_82 => ?_)
              · replace h := h.1 c_82
                refine v_aload_n X 0 dX7_alike_87 rfl rfl ?_
                refine v_get X 0 3 (F := TX7) (N := 33) iX7_alike_X7 rfl rfl (by decide) (List.mem_of_getElem? (i := 2) rfl) rfl rfl dX7_alike_88 ?_
                refine v_iload_n X 1 dX7_alike_91 rfl rfl ?_
                refine v_iald X 9 0 rfl rfl h.1 dX7_alike_92 ?_
                replace h := h.2
                refine v_istore X (lv' := [(4, .int (s_p0_points (x_1).toNatClampNeg)), (0, .ref o_p0), (1, .int x_1), (2, .int x_2), (3, .int x_3)]) dX7_alike_93 (by decide) rfl ?_
                refine v_iconst X dX7_alike_95 (v := (0 : Int32)) (by decide) ?_
                refine v_istore X (lv' := [(5, .int (0 : Int32)), (4, .int (s_p0_points (x_1).toNatClampNeg)), (0, .ref o_p0), (1, .int x_1), (2, .int x_2), (3, .int x_3)]) dX7_alike_96 (by decide) rfl ?_
                refine v_lv (lv' := [(0, .ref o_p0), (1, .int x_1), (2, .int x_2), (3, .int x_3), (4, .int (s_p0_points (x_1).toNatClampNeg)), (5, .int (0 : Int32))]) [2, 3, 4, 5, 1, 0] rfl ?_
                obtain ⟨n_, h⟩ := h
                exact k_X7_alike_98 X r n_ _ _ _ _ _ h
              · replace h := h.2 c_82
                refine v_lv (lv' := []) [] rfl ?_
                exact k_X7_alike_85 X r h
          · replace h := h.2 c_41
            refine v_lv (lv' := [(0, .ref o_p0)]) [0] rfl ?_
            exact k_X7_alike_44 X r h
      · replace h := h.2 c_21
        refine v_lv (lv' := []) [] rfl ?_
        exact k_X7_alike_24 X r h
-- X7_sent
abbrev cl_X7_sent (T : Nat → ClassId) (o_p0 : Nat) (a_p0 : Nat → Nat) (s_p0_finding : Int32) (s_p0_asked : Int64) (s_p0_newPoints : Int32) (s_p0_newLines : Int32) (s_p0_faultAt : Int64) (s_p0_tries : Int32) (s_p0_things : Int32) (s_p0_goals : Int32) (s_p0_level : Int32) (s_p0_sent : Nat → Int32) : va_W := [vO o_p0 4 [.int s_p0_finding, .ref (a_p0 1), .long s_p0_asked, .ref (a_p0 3), .ref (a_p0 4), .ref (a_p0 5), .ref (a_p0 6), .ref (a_p0 7), .int s_p0_newPoints, .int s_p0_newLines, .ref (a_p0 10), .ref (a_p0 11), .long s_p0_faultAt, .int s_p0_tries, .int s_p0_things, .int s_p0_goals, .ref (a_p0 16), .ref (a_p0 17), .ref (a_p0 18), .ref (a_p0 19), .ref (a_p0 20), .ref (a_p0 21), .int s_p0_level, .ref (a_p0 23), .ref (a_p0 24), .ref (a_p0 25), .ref (a_p0 26), .ref (a_p0 27), .ref (a_p0 28), .ref (a_p0 29), .ref (a_p0 30), .ref (a_p0 31), .ref (a_p0 32)], vI T (a_p0 24) 45 s_p0_sent]
abbrev r_X7_sent (E : vE) (T : Nat → ClassId) (o_p0 : Nat) (a_p0 : Nat → Nat) (s_p0_finding : Int32) (s_p0_asked : Int64) (s_p0_newPoints : Int32) (s_p0_newLines : Int32) (s_p0_faultAt : Int64) (s_p0_tries : Int32) (s_p0_things : Int32) (s_p0_goals : Int32) (s_p0_level : Int32) (s_p0_sent : Nat → Int32) (Q : Int32 → Prop) : Prop := vRi E cX7_sent (fun v (u : Unit) => Q v) (fun (u : Unit) => (cl_X7_sent T o_p0 a_p0 s_p0_finding s_p0_asked s_p0_newPoints s_p0_newLines s_p0_faultAt s_p0_tries s_p0_things s_p0_goals s_p0_level s_p0_sent))
def w_X7_sent_21 (t_0 : Int32) (s_p0_sent : Nat → Int32) (Q : Int32 → Prop) : Prop := (Q t_0)
def w_X7_sent (x_1 : Int32) (s_p0_sent : Nat → Int32) (Q : Int32 → Prop) : Prop := (w_X7_in x_1 (0 : Int32) (44 : Int32) (fun (r_4 : Int32) => ((r_4 = 0 → (w_X7_sent_21 (-9 : Int32) s_p0_sent Q)) ∧ (¬ r_4 = 0 → (vp_in x_1 45 ∧ (w_X7_sent_21 (s_p0_sent (x_1).toNatClampNeg) s_p0_sent Q))))))
-- X7_sent
theorem iX7_sent_X7 : ∀ w ∈ wsX70, w ∈ wsX7_sent := by decide +kernel
set_option maxHeartbeats 4000000 in
set_option maxRecDepth 100000 in
theorem k_X7_sent_21 {E : vE} {T : Nat → ClassId} {o_p0 : Nat} {a_p0 : Nat → Nat} {s_p0_finding : Int32} {s_p0_asked : Int64} {s_p0_newPoints : Int32} {s_p0_newLines : Int32} {s_p0_faultAt : Int64} {s_p0_tries : Int32} {s_p0_things : Int32} {s_p0_goals : Int32} {s_p0_level : Int32} {s_p0_sent : Nat → Int32} {t_0 : Int32} {Q : Int32 → Prop} (X : vX E cX7_sent 2 RX7 wsX7_sent (vT T) (vr 1 22)) (r : r_X7_sent E T o_p0 a_p0 s_p0_finding s_p0_asked s_p0_newPoints s_p0_newLines s_p0_faultAt s_p0_tries s_p0_things s_p0_goals s_p0_level s_p0_sent Q) (h : w_X7_sent_21 t_0 s_p0_sent Q) : V E 0 0 21 [] [.int t_0] (cl_X7_sent T o_p0 a_p0 s_p0_finding s_p0_asked s_p0_newPoints s_p0_newLines s_p0_faultAt s_p0_tries s_p0_things s_p0_goals s_p0_level s_p0_sent) := by
  unfold w_X7_sent_21 at h
  exact r _ _ _ () _ dX7_sent_21 h rfl
set_option maxHeartbeats 4000000 in
set_option maxRecDepth 100000 in
theorem c_X7_sent {l : Launch} {D : va_G} {T : Nat → ClassId} {o_p0 : Nat} {a_p0 : Nat → Nat} {s_p0_finding : Int32} {s_p0_asked : Int64} {s_p0_newPoints : Int32} {s_p0_newLines : Int32} {s_p0_faultAt : Int64} {s_p0_tries : Int32} {s_p0_things : Int32} {s_p0_goals : Int32} {s_p0_level : Int32} {s_p0_sent : Nat → Int32} {x_1 : Int32} {Q : Int32 → Prop} (h : w_X7_sent x_1 s_p0_sent Q) : vCi l D (vT T) yX7_sent wsX7_sent (vr 1 22) [.ref o_p0, .int x_1] (cl_X7_sent T o_p0 a_p0 s_p0_finding s_p0_asked s_p0_newPoints s_p0_newLines s_p0_faultAt s_p0_tries s_p0_things s_p0_goals s_p0_level s_p0_sent) (fun v (u : Unit) => Q v) (fun (u : Unit) => (cl_X7_sent T o_p0 a_p0 s_p0_finding s_p0_asked s_p0_newPoints s_p0_newLines s_p0_faultAt s_p0_tries s_p0_things s_p0_goals s_p0_level s_p0_sent)) := by
  refine vC_i (cc := cX7_sent) (nL := 2) (by decide +kernel) rfl ⟨rfl, rfl⟩ (Nat.le_of_ble_eq_true rfl) rfl ?_
  intro E el eD X r
  unfold w_X7_sent at h
  refine v_iload_n X 1 dX7_sent_0 rfl rfl ?_
  refine v_iconst X dX7_sent_1 (v := (0 : Int32)) (by decide) ?_
  refine v_bipush X dX7_sent_2 (v := (44 : Int32)) (by decide) ?_
  refine v_callSi0 X (As := [.int x_1, .int (0 : Int32), .int (44 : Int32)]) (rest := []) 3 (c_X7_in (l := vl E) (D := vD E) (T := T) (x_0 := x_1) (x_1 := (0 : Int32)) (x_2 := (44 : Int32)) h) gX7_sent_X7_in rfl rfl (by decide +kernel) ⟨Nat.zero_le _, Nat.zero_le _⟩ ⟨rfl, rfl, by decide, by decide⟩ (Nat.le_of_ble_eq_true rfl) rfl dX7_sent_4 (fun r_4 h => ?_)
  refine v_if_eq X (tgt := 19) dX7_sent_7 (by decide) (fun c_7 => ?_) (fun c_7 => ?_)
  · replace h := h.1 c_7
    refine v_bipush X dX7_sent_19 (v := (-9 : Int32)) (by decide) ?_
    refine v_lv (lv' := []) [] rfl ?_
    exact k_X7_sent_21 X r h
  · replace h := h.2 c_7
    refine v_aload_n X 0 dX7_sent_10 rfl rfl ?_
    refine v_get X 0 24 (F := TX7) (N := 33) iX7_sent_X7 rfl rfl (by decide) (List.mem_of_getElem? (i := 1) rfl) rfl rfl dX7_sent_11 ?_
    refine v_iload_n X 1 dX7_sent_14 rfl rfl ?_
    refine v_iald X 1 0 rfl rfl h.1 dX7_sent_15 ?_
    replace h := h.2
    refine v_goto X (tgt := 21) dX7_sent_16 (by decide) ?_
    refine v_lv (lv' := []) [] rfl ?_
    exact k_X7_sent_21 X r h
-- X7_far
abbrev cl_X7_far (T : Nat → ClassId) (o_p0 : Nat) (a_p0 : Nat → Nat) (s_p0_finding : Int32) (s_p0_asked : Int64) (s_p0_newPoints : Int32) (s_p0_newLines : Int32) (s_p0_faultAt : Int64) (s_p0_tries : Int32) (s_p0_things : Int32) (s_p0_goals : Int32) (s_p0_level : Int32) (s_p0_findings : Nat → Int32) (s_p0_lineCount : Nat → Int32) (s_p0_lines : Nat → Int64) (s_p0_points : Nat → Int32) : va_W := [vO o_p0 4 [.int s_p0_finding, .ref (a_p0 1), .long s_p0_asked, .ref (a_p0 3), .ref (a_p0 4), .ref (a_p0 5), .ref (a_p0 6), .ref (a_p0 7), .int s_p0_newPoints, .int s_p0_newLines, .ref (a_p0 10), .ref (a_p0 11), .long s_p0_faultAt, .int s_p0_tries, .int s_p0_things, .int s_p0_goals, .ref (a_p0 16), .ref (a_p0 17), .ref (a_p0 18), .ref (a_p0 19), .ref (a_p0 20), .ref (a_p0 21), .int s_p0_level, .ref (a_p0 23), .ref (a_p0 24), .ref (a_p0 25), .ref (a_p0 26), .ref (a_p0 27), .ref (a_p0 28), .ref (a_p0 29), .ref (a_p0 30), .ref (a_p0 31), .ref (a_p0 32)], vI T (a_p0 1) 6 s_p0_findings, vI T (a_p0 4) 6 s_p0_lineCount, vJ T (a_p0 7) 270 s_p0_lines, vI T (a_p0 3) 6 s_p0_points]
abbrev r_X7_far (E : vE) (T : Nat → ClassId) (o_p0 : Nat) (a_p0 : Nat → Nat) (s_p0_asked : Int64) (s_p0_newPoints : Int32) (s_p0_newLines : Int32) (s_p0_faultAt : Int64) (s_p0_tries : Int32) (s_p0_things : Int32) (s_p0_goals : Int32) (s_p0_level : Int32) (s_p0_lineCount : Nat → Int32) (s_p0_lines : Nat → Int64) (s_p0_points : Nat → Int32) (Q : Int32 → (Int32) → (Nat → Int32) → Prop) : Prop := vRi E cX7_far (fun v (u : (Int32) × (Nat → Int32)) => Q v u.1 u.2) (fun (u : (Int32) × (Nat → Int32)) => (cl_X7_far T o_p0 a_p0 u.1 s_p0_asked s_p0_newPoints s_p0_newLines s_p0_faultAt s_p0_tries s_p0_things s_p0_goals s_p0_level u.2 s_p0_lineCount s_p0_lines s_p0_points))
def w_X7_far_111 (x_1 : Int32) (x_3 : Int32) (x_5 : Int64) (x_7 : Int32) (x_10 : Int32) (t_0 : Int64) (t_1 : Int64) (s_p0_finding : Int32) (s_p0_findings : Nat → Int32) (s_p0_lineCount : Nat → Int32) (s_p0_lines : Nat → Int64) (s_p0_points : Nat → Int32) (K_47 : (Int64) → (Int32) → Prop) (K_77 : (Int64) → (Int32) → Prop) (Q : Int32 → (Int32) → (Nat → Int32) → Prop) : Prop := (K_77 (t_0 ||| t_1) (x_10 + (1 : Int32)))
def w_X7_far_77s (x_1 : Int32) (x_3 : Int32) (x_5 : Int64) (x_7 : Int32) (s_p0_finding : Int32) (s_p0_findings : Nat → Int32) (s_p0_lineCount : Nat → Int32) (s_p0_lines : Nat → Int64) (s_p0_points : Nat → Int32) (K_47 : (Int64) → (Int32) → Prop) (Q : Int32 → (Int32) → (Nat → Int32) → Prop) (K_77 : (Int64) → (Int32) → Prop) (x_8 : Int64) (x_10 : Int32) : Prop := (vp_in x_1 6 ∧ (((s_p0_points (x_1).toNatClampNeg) ≤ x_10 → (K_47 x_8 (x_7 + (1 : Int32)))) ∧ (¬ (s_p0_points (x_1).toNatClampNeg) ≤ x_10 → (w_X7_has x_5 x_10 (fun (r_94 : Int32) => ((r_94 = 0 → (w_X7_far_111 x_1 x_3 x_5 x_7 x_10 x_8 (0 : Int64) s_p0_finding s_p0_findings s_p0_lineCount s_p0_lines s_p0_points K_47 K_77 Q)) ∧ (¬ r_94 = 0 → (w_X7_nearTo x_1 x_10 s_p0_lineCount s_p0_lines (fun (r_104 : Int64) => (w_X7_far_111 x_1 x_3 x_5 x_7 x_10 x_8 r_104 s_p0_finding s_p0_findings s_p0_lineCount s_p0_lines s_p0_points K_47 K_77 Q))))))))))
def w_X7_far_77 (x_1 : Int32) (x_3 : Int32) (x_5 : Int64) (x_7 : Int32) (s_p0_finding : Int32) (s_p0_findings : Nat → Int32) (s_p0_lineCount : Nat → Int32) (s_p0_lines : Nat → Int64) (s_p0_points : Nat → Int32) (K_47 : (Int64) → (Int32) → Prop) (Q : Int32 → (Int32) → (Nat → Int32) → Prop) : Nat → (Int64) → (Int32) → Prop
  | 0 => fun _ _ => False
  | n_ + 1 => w_X7_far_77s x_1 x_3 x_5 x_7 s_p0_finding s_p0_findings s_p0_lineCount s_p0_lines s_p0_points K_47 Q (w_X7_far_77 x_1 x_3 x_5 x_7 s_p0_finding s_p0_findings s_p0_lineCount s_p0_lines s_p0_points K_47 Q n_)
def w_X7_far_47s (x_1 : Int32) (x_3 : Int32) (s_p0_finding : Int32) (s_p0_findings : Nat → Int32) (s_p0_lineCount : Nat → Int32) (s_p0_lines : Nat → Int64) (s_p0_points : Nat → Int32) (Q : Int32 → (Int32) → (Nat → Int32) → Prop) (K_47 : (Int64) → (Int32) → Prop) (x_5 : Int64) (x_7 : Int32) : Prop := (vp_in x_1 6 ∧ (((s_p0_points (x_1).toNatClampNeg) < x_7 → (Q (-9 : Int32) s_p0_finding s_p0_findings)) ∧ (¬ (s_p0_points (x_1).toNatClampNeg) < x_7 → (w_X7_has x_5 x_3 (fun (r_61 : Int32) => ((r_61 = 0 → (∃ n_, w_X7_far_77 x_1 x_3 x_5 x_7 s_p0_finding s_p0_findings s_p0_lineCount s_p0_lines s_p0_points K_47 Q n_ x_5 (0 : Int32))) ∧ (¬ r_61 = 0 → (Q x_7 s_p0_finding s_p0_findings))))))))
def w_X7_far_47 (x_1 : Int32) (x_3 : Int32) (s_p0_finding : Int32) (s_p0_findings : Nat → Int32) (s_p0_lineCount : Nat → Int32) (s_p0_lines : Nat → Int64) (s_p0_points : Nat → Int32) (Q : Int32 → (Int32) → (Nat → Int32) → Prop) : Nat → (Int64) → (Int32) → Prop
  | 0 => fun _ _ => False
  | n_ + 1 => w_X7_far_47s x_1 x_3 s_p0_finding s_p0_findings s_p0_lineCount s_p0_lines s_p0_points Q (w_X7_far_47 x_1 x_3 s_p0_finding s_p0_findings s_p0_lineCount s_p0_lines s_p0_points Q n_)
def w_X7_far_33 (s_p0_finding : Int32) (s_p0_findings : Nat → Int32) (s_p0_lineCount : Nat → Int32) (s_p0_lines : Nat → Int64) (s_p0_points : Nat → Int32) (Q : Int32 → (Int32) → (Nat → Int32) → Prop) : Prop := (w_X7_meets (2 : Int32) s_p0_finding s_p0_findings (fun (r_35 : Int32) (u_35_0 : Int32) (u_35_1 : Nat → Int32) => (Q r_35 u_35_0 u_35_1)))
def w_X7_far (x_1 : Int32) (x_2 : Int32) (x_3 : Int32) (s_p0_finding : Int32) (s_p0_findings : Nat → Int32) (s_p0_lineCount : Nat → Int32) (s_p0_lines : Nat → Int64) (s_p0_points : Nat → Int32) (Q : Int32 → (Int32) → (Nat → Int32) → Prop) : Prop := (w_X7_looked x_1 s_p0_finding s_p0_findings s_p0_points (fun (r_2 : Int32) (u_2_0 : Int32) (u_2_1 : Nat → Int32) => ((0 ≤ r_2 → (w_X7_isPoint x_1 x_2 s_p0_points (fun (r_18 : Int32) => ((r_18 = 0 → (w_X7_far_33 u_2_0 u_2_1 s_p0_lineCount s_p0_lines s_p0_points Q)) ∧ (¬ r_18 = 0 → (w_X7_isPoint x_1 x_3 s_p0_points (fun (r_27 : Int32) => ((¬ r_27 = 0 → (∃ n_, w_X7_far_47 x_1 x_3 u_2_0 u_2_1 s_p0_lineCount s_p0_lines s_p0_points Q n_ (vshl (1 : Int64) x_2) (0 : Int32))) ∧ (r_27 = 0 → (w_X7_far_33 u_2_0 u_2_1 s_p0_lineCount s_p0_lines s_p0_points Q)))))))))) ∧ (¬ 0 ≤ r_2 → (Q r_2 u_2_0 u_2_1)))))
-- X7_far
theorem iX7_far_X7 : ∀ w ∈ wsX70, w ∈ wsX7_far := by decide +kernel
set_option maxHeartbeats 4000000 in
set_option maxRecDepth 100000 in
theorem k_X7_far_111 {E : vE} {T : Nat → ClassId} {o_p0 : Nat} {a_p0 : Nat → Nat} {s_p0_finding : Int32} {s_p0_asked : Int64} {s_p0_newPoints : Int32} {s_p0_newLines : Int32} {s_p0_faultAt : Int64} {s_p0_tries : Int32} {s_p0_things : Int32} {s_p0_goals : Int32} {s_p0_level : Int32} {s_p0_findings : Nat → Int32} {s_p0_lineCount : Nat → Int32} {s_p0_lines : Nat → Int64} {s_p0_points : Nat → Int32} {x_1 : Int32} {x_3 : Int32} {x_5 : Int64} {x_7 : Int32} {x_10 : Int32} {t_0 : Int64} {t_1 : Int64} {K_47 : (Int64) → (Int32) → Prop} {K_77 : (Int64) → (Int32) → Prop} {Q : Int32 → (Int32) → (Nat → Int32) → Prop} (X : vX E cX7_far 11 RX7 wsX7_far (vT T) (vr 3 63)) (r : r_X7_far E T o_p0 a_p0 s_p0_asked s_p0_newPoints s_p0_newLines s_p0_faultAt s_p0_tries s_p0_things s_p0_goals s_p0_level s_p0_lineCount s_p0_lines s_p0_points Q) (hK_47 : ∀ (x_5' : Int64) (x_7' : Int32), K_47 x_5' x_7' → V E 0 0 47 [(0, .ref o_p0), (1, .int x_1), (3, .int x_3), (5, .long x_5'), (7, .int x_7')] [] (cl_X7_far T o_p0 a_p0 s_p0_finding s_p0_asked s_p0_newPoints s_p0_newLines s_p0_faultAt s_p0_tries s_p0_things s_p0_goals s_p0_level s_p0_findings s_p0_lineCount s_p0_lines s_p0_points)) (hK_77 : ∀ (x_8' : Int64) (x_10' : Int32), K_77 x_8' x_10' → V E 0 0 77 [(0, .ref o_p0), (1, .int x_1), (3, .int x_3), (5, .long x_5), (7, .int x_7), (8, .long x_8'), (10, .int x_10')] [] (cl_X7_far T o_p0 a_p0 s_p0_finding s_p0_asked s_p0_newPoints s_p0_newLines s_p0_faultAt s_p0_tries s_p0_things s_p0_goals s_p0_level s_p0_findings s_p0_lineCount s_p0_lines s_p0_points)) (h : w_X7_far_111 x_1 x_3 x_5 x_7 x_10 t_0 t_1 s_p0_finding s_p0_findings s_p0_lineCount s_p0_lines s_p0_points K_47 K_77 Q) : V E 0 0 111 [(0, .ref o_p0), (1, .int x_1), (3, .int x_3), (5, .long x_5), (7, .int x_7), (10, .int x_10)] [.long t_1, .long t_0] (cl_X7_far T o_p0 a_p0 s_p0_finding s_p0_asked s_p0_newPoints s_p0_newLines s_p0_faultAt s_p0_tries s_p0_things s_p0_goals s_p0_level s_p0_findings s_p0_lineCount s_p0_lines s_p0_points) := by
  unfold w_X7_far_111 at h
  refine v_lor X dX7_far_111 ?_
  refine v_lstore X (lv' := [(8, .long (t_0 ||| t_1)), (0, .ref o_p0), (1, .int x_1), (3, .int x_3), (5, .long x_5), (7, .int x_7), (10, .int x_10)]) dX7_far_112 (by decide) rfl ?_
  refine v_iinc X (v := (x_10 + (1 : Int32))) (lv' := [(10, .int (x_10 + (1 : Int32))), (8, .long (t_0 ||| t_1)), (0, .ref o_p0), (1, .int x_1), (3, .int x_3), (5, .long x_5), (7, .int x_7)]) 6 dX7_far_114 rfl rfl (by decide) rfl ?_
  refine v_goto X (tgt := 77) dX7_far_117 (by decide) ?_
  refine v_lv (lv' := [(0, .ref o_p0), (1, .int x_1), (3, .int x_3), (5, .long x_5), (7, .int x_7), (8, .long (t_0 ||| t_1)), (10, .int (x_10 + (1 : Int32)))]) [2, 3, 4, 5, 6, 1, 0] rfl ?_
  exact hK_77 _ _ h
set_option maxHeartbeats 4000000 in
set_option maxRecDepth 100000 in
theorem k_X7_far_77 {E : vE} {T : Nat → ClassId} {o_p0 : Nat} {a_p0 : Nat → Nat} {s_p0_finding : Int32} {s_p0_asked : Int64} {s_p0_newPoints : Int32} {s_p0_newLines : Int32} {s_p0_faultAt : Int64} {s_p0_tries : Int32} {s_p0_things : Int32} {s_p0_goals : Int32} {s_p0_level : Int32} {s_p0_findings : Nat → Int32} {s_p0_lineCount : Nat → Int32} {s_p0_lines : Nat → Int64} {s_p0_points : Nat → Int32} {x_1 : Int32} {x_3 : Int32} {x_5 : Int64} {x_7 : Int32} {K_47 : (Int64) → (Int32) → Prop} {Q : Int32 → (Int32) → (Nat → Int32) → Prop} (X : vX E cX7_far 11 RX7 wsX7_far (vT T) (vr 3 63)) (r : r_X7_far E T o_p0 a_p0 s_p0_asked s_p0_newPoints s_p0_newLines s_p0_faultAt s_p0_tries s_p0_things s_p0_goals s_p0_level s_p0_lineCount s_p0_lines s_p0_points Q) (hK_47 : ∀ (x_5' : Int64) (x_7' : Int32), K_47 x_5' x_7' → V E 0 0 47 [(0, .ref o_p0), (1, .int x_1), (3, .int x_3), (5, .long x_5'), (7, .int x_7')] [] (cl_X7_far T o_p0 a_p0 s_p0_finding s_p0_asked s_p0_newPoints s_p0_newLines s_p0_faultAt s_p0_tries s_p0_things s_p0_goals s_p0_level s_p0_findings s_p0_lineCount s_p0_lines s_p0_points)) : ∀ (n_ : Nat) (x_8 : Int64) (x_10 : Int32), w_X7_far_77 x_1 x_3 x_5 x_7 s_p0_finding s_p0_findings s_p0_lineCount s_p0_lines s_p0_points K_47 Q n_ x_8 x_10 → V E 0 0 77 [(0, .ref o_p0), (1, .int x_1), (3, .int x_3), (5, .long x_5), (7, .int x_7), (8, .long x_8), (10, .int x_10)] [] (cl_X7_far T o_p0 a_p0 s_p0_finding s_p0_asked s_p0_newPoints s_p0_newLines s_p0_faultAt s_p0_tries s_p0_things s_p0_goals s_p0_level s_p0_findings s_p0_lineCount s_p0_lines s_p0_points) := by
  intro n_
  induction n_ with
  | zero => intro x_8 x_10 h; exact h.elim
  | succ n_ hK_77 =>
    intro x_8 x_10 h
    replace h : w_X7_far_77s x_1 x_3 x_5 x_7 s_p0_finding s_p0_findings s_p0_lineCount s_p0_lines s_p0_points K_47 Q (w_X7_far_77 x_1 x_3 x_5 x_7 s_p0_finding s_p0_findings s_p0_lineCount s_p0_lines s_p0_points K_47 Q n_) x_8 x_10 := h
    unfold w_X7_far_77s at h
    refine v_iload X 6 dX7_far_77 rfl ?_
    refine v_aload_n X 0 dX7_far_79 rfl rfl ?_
    refine v_get X 0 3 (F := TX7) (N := 33) iX7_far_X7 rfl rfl (by decide) (List.mem_of_getElem? (i := 1) rfl) rfl rfl dX7_far_80 ?_
    refine v_iload_n X 1 dX7_far_83 rfl rfl ?_
    refine v_iald X 4 0 rfl rfl h.1 dX7_far_84 ?_
    replace h := h.2
    refine v_icmp_ge X (tgt := 120) dX7_far_85 (by decide) (fun c_85 => ?_) (fun c_85 => ?_)
    · replace h := h.1 c_85
      refine v_lload X 5 dX7_far_120 rfl ?_
      refine v_lstore X (lv' := [(5, .long x_8), (0, .ref o_p0), (1, .int x_1), (3, .int x_3), (7, .int x_7), (8, .long x_8), (10, .int x_10)]) dX7_far_122 (by decide) rfl ?_
      refine v_iinc X (v := (x_7 + (1 : Int32))) (lv' := [(7, .int (x_7 + (1 : Int32))), (5, .long x_8), (0, .ref o_p0), (1, .int x_1), (3, .int x_3), (8, .long x_8), (10, .int x_10)]) 4 dX7_far_124 rfl rfl (by decide) rfl ?_
      refine v_goto X (tgt := 47) dX7_far_127 (by decide) ?_
      refine v_lv (lv' := [(0, .ref o_p0), (1, .int x_1), (3, .int x_3), (5, .long x_8), (7, .int (x_7 + (1 : Int32)))]) [2, 3, 4, 1, 0] rfl ?_
      exact hK_47 _ _ h
    · replace h := h.2 c_85
      refine v_lload X 5 dX7_far_88 rfl ?_
      refine v_lload X 3 dX7_far_90 rfl ?_
      refine v_iload X 6 dX7_far_92 rfl ?_
      refine v_callSi0 X (As := [.long x_5, .int x_10]) (rest := [.long x_8]) 2 (c_X7_has (l := vl E) (D := vD E) (T := T) (x_0 := x_5) (x_2 := x_10) h) gX7_far_X7_has rfl rfl (by decide +kernel) ⟨Nat.zero_le _, Nat.zero_le _⟩ ⟨rfl, rfl, by decide, by decide⟩ (Nat.le_of_ble_eq_true rfl) rfl dX7_far_94 (fun r_94 h => ?_)
      refine v_if_eq X (tgt := 110) dX7_far_97 (by decide) (fun c_97 => ?_) (fun c_97 => ?_)
      · replace h := h.1 c_97
        refine v_lconst X dX7_far_110 (v := (0 : Int64)) (by decide) ?_
        refine v_lv (lv' := [(0, .ref o_p0), (1, .int x_1), (3, .int x_3), (5, .long x_5), (7, .int x_7), (10, .int x_10)]) [0, 1, 2, 3, 4, 6] rfl ?_
        exact k_X7_far_111 X r hK_47 hK_77 h
      · replace h := h.2 c_97
        refine v_aload_n X 0 dX7_far_100 rfl rfl ?_
        refine v_iload_n X 1 dX7_far_101 rfl rfl ?_
        refine v_iload X 6 dX7_far_102 rfl ?_
        refine v_callVl X (As := [.int x_1, .int x_10]) (rest := [.long x_8]) 2 0 (c_X7_nearTo (l := vl E) (D := vD E) (T := T) (o_p0 := o_p0) (a_p0 := a_p0) (s_p0_finding := s_p0_finding) (s_p0_asked := s_p0_asked) (s_p0_newPoints := s_p0_newPoints) (s_p0_newLines := s_p0_newLines) (s_p0_faultAt := s_p0_faultAt) (s_p0_tries := s_p0_tries) (s_p0_things := s_p0_things) (s_p0_goals := s_p0_goals) (s_p0_level := s_p0_level) (s_p0_lineCount := s_p0_lineCount) (s_p0_lines := s_p0_lines) (x_1 := x_1) (x_2 := x_10) h) gX7_far_X7_nearTo rfl rfl (by decide +kernel) ⟨Nat.zero_le _, Nat.zero_le _⟩ ⟨rfl, rfl, by decide, by decide⟩ (Nat.le_of_ble_eq_true rfl) rfl rfl (wr := [vI T (a_p0 1) 6 s_p0_findings, vI T (a_p0 3) 6 s_p0_points]) [0, 2, 3] [1, 4] rfl rfl rfl rfl (by decide) rfl dX7_far_104 (fun r_104 u h => ?_)
        refine v_ws (ws' := (cl_X7_far T o_p0 a_p0 s_p0_finding s_p0_asked s_p0_newPoints s_p0_newLines s_p0_faultAt s_p0_tries s_p0_things s_p0_goals s_p0_level s_p0_findings s_p0_lineCount s_p0_lines s_p0_points)) [2, 0, 3, 4, 1] rfl rfl ?_
        refine v_goto X (tgt := 111) dX7_far_107 (by decide) ?_
        refine v_lv (lv' := [(0, .ref o_p0), (1, .int x_1), (3, .int x_3), (5, .long x_5), (7, .int x_7), (10, .int x_10)]) [0, 1, 2, 3, 4, 6] rfl ?_
        exact k_X7_far_111 X r hK_47 hK_77 h
set_option maxHeartbeats 4000000 in
set_option maxRecDepth 100000 in
theorem k_X7_far_47 {E : vE} {T : Nat → ClassId} {o_p0 : Nat} {a_p0 : Nat → Nat} {s_p0_finding : Int32} {s_p0_asked : Int64} {s_p0_newPoints : Int32} {s_p0_newLines : Int32} {s_p0_faultAt : Int64} {s_p0_tries : Int32} {s_p0_things : Int32} {s_p0_goals : Int32} {s_p0_level : Int32} {s_p0_findings : Nat → Int32} {s_p0_lineCount : Nat → Int32} {s_p0_lines : Nat → Int64} {s_p0_points : Nat → Int32} {x_1 : Int32} {x_3 : Int32} {Q : Int32 → (Int32) → (Nat → Int32) → Prop} (X : vX E cX7_far 11 RX7 wsX7_far (vT T) (vr 3 63)) (r : r_X7_far E T o_p0 a_p0 s_p0_asked s_p0_newPoints s_p0_newLines s_p0_faultAt s_p0_tries s_p0_things s_p0_goals s_p0_level s_p0_lineCount s_p0_lines s_p0_points Q) : ∀ (n_ : Nat) (x_5 : Int64) (x_7 : Int32), w_X7_far_47 x_1 x_3 s_p0_finding s_p0_findings s_p0_lineCount s_p0_lines s_p0_points Q n_ x_5 x_7 → V E 0 0 47 [(0, .ref o_p0), (1, .int x_1), (3, .int x_3), (5, .long x_5), (7, .int x_7)] [] (cl_X7_far T o_p0 a_p0 s_p0_finding s_p0_asked s_p0_newPoints s_p0_newLines s_p0_faultAt s_p0_tries s_p0_things s_p0_goals s_p0_level s_p0_findings s_p0_lineCount s_p0_lines s_p0_points) := by
  intro n_
  induction n_ with
  | zero => intro x_5 x_7 h; exact h.elim
  | succ n_ hK_47 =>
    intro x_5 x_7 h
    replace h : w_X7_far_47s x_1 x_3 s_p0_finding s_p0_findings s_p0_lineCount s_p0_lines s_p0_points Q (w_X7_far_47 x_1 x_3 s_p0_finding s_p0_findings s_p0_lineCount s_p0_lines s_p0_points Q n_) x_5 x_7 := h
    unfold w_X7_far_47s at h
    refine v_iload X 4 dX7_far_47 rfl ?_
    refine v_aload_n X 0 dX7_far_49 rfl rfl ?_
    refine v_get X 0 3 (F := TX7) (N := 33) iX7_far_X7 rfl rfl (by decide) (List.mem_of_getElem? (i := 1) rfl) rfl rfl dX7_far_50 ?_
    refine v_iload_n X 1 dX7_far_53 rfl rfl ?_
    refine v_iald X 4 0 rfl rfl h.1 dX7_far_54 ?_
    replace h := h.2
    refine v_icmp_gt X (tgt := 130) dX7_far_55 (by decide) (fun c_55 => ?_) (fun c_55 => ?_)
    · replace h := h.1 c_55
      refine v_bipush X dX7_far_130 (v := (-9 : Int32)) (by decide) ?_
      exact r _ _ _ (s_p0_finding, s_p0_findings) _ dX7_far_132 h rfl
    · replace h := h.2 c_55
      refine v_lload X 3 dX7_far_58 rfl ?_
      refine v_iload_n X 2 dX7_far_60 rfl rfl ?_
      refine v_callSi0 X (As := [.long x_5, .int x_3]) (rest := []) 2 (c_X7_has (l := vl E) (D := vD E) (T := T) (x_0 := x_5) (x_2 := x_3) h) gX7_far_X7_has rfl rfl (by decide +kernel) ⟨Nat.zero_le _, Nat.zero_le _⟩ ⟨rfl, rfl, by decide, by decide⟩ (Nat.le_of_ble_eq_true rfl) rfl dX7_far_61 (fun r_61 h => ?_)
      refine v_if_eq X (tgt := 70) dX7_far_64 (by decide) (fun c_64 => ?_) (fun c_64 => ?_)
      · replace h := h.1 c_64
        refine v_lload X 3 dX7_far_70 rfl ?_
        refine v_lstore X (lv' := [(8, .long x_5), (0, .ref o_p0), (1, .int x_1), (3, .int x_3), (5, .long x_5), (7, .int x_7)]) dX7_far_72 (by decide) rfl ?_
        refine v_iconst X dX7_far_74 (v := (0 : Int32)) (by decide) ?_
        refine v_istore X (lv' := [(10, .int (0 : Int32)), (8, .long x_5), (0, .ref o_p0), (1, .int x_1), (3, .int x_3), (5, .long x_5), (7, .int x_7)]) dX7_far_75 (by decide) rfl ?_
        refine v_lv (lv' := [(0, .ref o_p0), (1, .int x_1), (3, .int x_3), (5, .long x_5), (7, .int x_7), (8, .long x_5), (10, .int (0 : Int32))]) [2, 3, 4, 5, 6, 1, 0] rfl ?_
        obtain ⟨n_, h⟩ := h
        exact k_X7_far_77 X r hK_47 n_ _ _ h
      · replace h := h.2 c_64
        refine v_iload X 4 dX7_far_67 rfl ?_
        exact r _ _ _ (s_p0_finding, s_p0_findings) _ dX7_far_69 h rfl
set_option maxHeartbeats 4000000 in
set_option maxRecDepth 100000 in
theorem k_X7_far_33 {E : vE} {T : Nat → ClassId} {o_p0 : Nat} {a_p0 : Nat → Nat} {s_p0_finding : Int32} {s_p0_asked : Int64} {s_p0_newPoints : Int32} {s_p0_newLines : Int32} {s_p0_faultAt : Int64} {s_p0_tries : Int32} {s_p0_things : Int32} {s_p0_goals : Int32} {s_p0_level : Int32} {s_p0_findings : Nat → Int32} {s_p0_lineCount : Nat → Int32} {s_p0_lines : Nat → Int64} {s_p0_points : Nat → Int32} {Q : Int32 → (Int32) → (Nat → Int32) → Prop} (X : vX E cX7_far 11 RX7 wsX7_far (vT T) (vr 3 63)) (r : r_X7_far E T o_p0 a_p0 s_p0_asked s_p0_newPoints s_p0_newLines s_p0_faultAt s_p0_tries s_p0_things s_p0_goals s_p0_level s_p0_lineCount s_p0_lines s_p0_points Q) (h : w_X7_far_33 s_p0_finding s_p0_findings s_p0_lineCount s_p0_lines s_p0_points Q) : V E 0 0 33 [(0, .ref o_p0)] [] (cl_X7_far T o_p0 a_p0 s_p0_finding s_p0_asked s_p0_newPoints s_p0_newLines s_p0_faultAt s_p0_tries s_p0_things s_p0_goals s_p0_level s_p0_findings s_p0_lineCount s_p0_lines s_p0_points) := by
  unfold w_X7_far_33 at h
  refine v_aload_n X 0 dX7_far_33 rfl rfl ?_
  refine v_iconst X dX7_far_34 (v := (2 : Int32)) (by decide) ?_
  refine v_callVi X (As := [.int (2 : Int32)]) (rest := []) 1 0 (c_X7_meets (l := vl E) (D := vD E) (T := T) (o_p0 := o_p0) (a_p0 := a_p0) (s_p0_finding := s_p0_finding) (s_p0_asked := s_p0_asked) (s_p0_newPoints := s_p0_newPoints) (s_p0_newLines := s_p0_newLines) (s_p0_faultAt := s_p0_faultAt) (s_p0_tries := s_p0_tries) (s_p0_things := s_p0_things) (s_p0_goals := s_p0_goals) (s_p0_level := s_p0_level) (s_p0_findings := s_p0_findings) (x_1 := (2 : Int32)) h) gX7_far_X7_meets rfl rfl (by decide +kernel) ⟨Nat.zero_le _, Nat.zero_le _⟩ ⟨rfl, rfl, by decide, by decide⟩ (Nat.le_of_ble_eq_true rfl) rfl rfl (wr := [vI T (a_p0 4) 6 s_p0_lineCount, vJ T (a_p0 7) 270 s_p0_lines, vI T (a_p0 3) 6 s_p0_points]) [0, 1] [2, 3, 4] rfl rfl rfl rfl (by decide) rfl dX7_far_35 (fun r_35 u h => ?_)
  obtain ⟨u_35_0, u_35_1⟩ := u
  dsimp only at h
  refine v_ws (ws' := (cl_X7_far T o_p0 a_p0 u_35_0 s_p0_asked s_p0_newPoints s_p0_newLines s_p0_faultAt s_p0_tries s_p0_things s_p0_goals s_p0_level u_35_1 s_p0_lineCount s_p0_lines s_p0_points)) [3, 4, 0, 1, 2] rfl rfl ?_
  exact r _ _ _ (u_35_0, u_35_1) _ dX7_far_38 h rfl
set_option maxHeartbeats 4000000 in
set_option maxRecDepth 100000 in
theorem c_X7_far {l : Launch} {D : va_G} {T : Nat → ClassId} {o_p0 : Nat} {a_p0 : Nat → Nat} {s_p0_finding : Int32} {s_p0_asked : Int64} {s_p0_newPoints : Int32} {s_p0_newLines : Int32} {s_p0_faultAt : Int64} {s_p0_tries : Int32} {s_p0_things : Int32} {s_p0_goals : Int32} {s_p0_level : Int32} {s_p0_findings : Nat → Int32} {s_p0_lineCount : Nat → Int32} {s_p0_lines : Nat → Int64} {s_p0_points : Nat → Int32} {x_1 : Int32} {x_2 : Int32} {x_3 : Int32} {Q : Int32 → (Int32) → (Nat → Int32) → Prop} (h : w_X7_far x_1 x_2 x_3 s_p0_finding s_p0_findings s_p0_lineCount s_p0_lines s_p0_points Q) : vCi l D (vT T) yX7_far wsX7_far (vr 3 63) [.ref o_p0, .int x_1, .int x_2, .int x_3] (cl_X7_far T o_p0 a_p0 s_p0_finding s_p0_asked s_p0_newPoints s_p0_newLines s_p0_faultAt s_p0_tries s_p0_things s_p0_goals s_p0_level s_p0_findings s_p0_lineCount s_p0_lines s_p0_points) (fun v (u : (Int32) × (Nat → Int32)) => Q v u.1 u.2) (fun (u : (Int32) × (Nat → Int32)) => (cl_X7_far T o_p0 a_p0 u.1 s_p0_asked s_p0_newPoints s_p0_newLines s_p0_faultAt s_p0_tries s_p0_things s_p0_goals s_p0_level u.2 s_p0_lineCount s_p0_lines s_p0_points)) := by
  refine vC_i (cc := cX7_far) (nL := 11) (by decide +kernel) rfl ⟨rfl, rfl⟩ (Nat.le_of_ble_eq_true rfl) rfl ?_
  intro E el eD X r
  unfold w_X7_far at h
  refine v_aload_n X 0 dX7_far_0 rfl rfl ?_
  refine v_iload_n X 1 dX7_far_1 rfl rfl ?_
  refine v_callVi X (As := [.int x_1]) (rest := []) 1 0 (c_X7_looked (l := vl E) (D := vD E) (T := T) (o_p0 := o_p0) (a_p0 := a_p0) (s_p0_finding := s_p0_finding) (s_p0_asked := s_p0_asked) (s_p0_newPoints := s_p0_newPoints) (s_p0_newLines := s_p0_newLines) (s_p0_faultAt := s_p0_faultAt) (s_p0_tries := s_p0_tries) (s_p0_things := s_p0_things) (s_p0_goals := s_p0_goals) (s_p0_level := s_p0_level) (s_p0_findings := s_p0_findings) (s_p0_points := s_p0_points) (x_1 := x_1) h) gX7_far_X7_looked rfl rfl (by decide +kernel) ⟨Nat.zero_le _, Nat.zero_le _⟩ ⟨rfl, rfl, by decide, by decide⟩ (Nat.le_of_ble_eq_true rfl) rfl rfl (wr := [vI T (a_p0 4) 6 s_p0_lineCount, vJ T (a_p0 7) 270 s_p0_lines]) [0, 1, 4] [2, 3] rfl rfl rfl rfl (by decide) rfl dX7_far_2 (fun r_2 u h => ?_)
  obtain ⟨u_2_0, u_2_1⟩ := u
  dsimp only at h
  refine v_ws (ws' := (cl_X7_far T o_p0 a_p0 u_2_0 s_p0_asked s_p0_newPoints s_p0_newLines s_p0_faultAt s_p0_tries s_p0_things s_p0_goals s_p0_level u_2_1 s_p0_lineCount s_p0_lines s_p0_points)) [2, 3, 0, 1, 4] rfl rfl ?_
  refine v_istore X (lv' := [(4, .int r_2), (0, .ref o_p0), (1, .int x_1), (2, .int x_2), (3, .int x_3)]) dX7_far_5 (by decide) rfl ?_
  refine v_iload X 0 dX7_far_7 rfl ?_
  refine v_if_ge X (tgt := 15) dX7_far_9 (by decide) (fun c_9 => ?_) (fun c_9 => ?_)
  · replace h := h.1 c_9
    refine v_aload_n X 1 dX7_far_15 rfl rfl ?_
    refine v_iload_n X 2 dX7_far_16 rfl rfl ?_
    refine v_iload_n X 3 dX7_far_17 rfl rfl ?_
    refine v_callVi X (As := [.int x_1, .int x_2]) (rest := []) 2 0 (c_X7_isPoint (l := vl E) (D := vD E) (T := T) (o_p0 := o_p0) (a_p0 := a_p0) (s_p0_finding := u_2_0) (s_p0_asked := s_p0_asked) (s_p0_newPoints := s_p0_newPoints) (s_p0_newLines := s_p0_newLines) (s_p0_faultAt := s_p0_faultAt) (s_p0_tries := s_p0_tries) (s_p0_things := s_p0_things) (s_p0_goals := s_p0_goals) (s_p0_level := s_p0_level) (s_p0_points := s_p0_points) (x_1 := x_1) (x_2 := x_2) h) gX7_far_X7_isPoint rfl rfl (by decide +kernel) ⟨Nat.zero_le _, Nat.zero_le _⟩ ⟨rfl, rfl, by decide, by decide⟩ (Nat.le_of_ble_eq_true rfl) rfl rfl (wr := [vI T (a_p0 1) 6 u_2_1, vI T (a_p0 4) 6 s_p0_lineCount, vJ T (a_p0 7) 270 s_p0_lines]) [0, 4] [1, 2, 3] rfl rfl rfl rfl (by decide) rfl dX7_far_18 (fun r_18 u h => ?_)
    refine v_ws (ws' := (cl_X7_far T o_p0 a_p0 u_2_0 s_p0_asked s_p0_newPoints s_p0_newLines s_p0_faultAt s_p0_tries s_p0_things s_p0_goals s_p0_level u_2_1 s_p0_lineCount s_p0_lines s_p0_points)) [3, 0, 1, 2, 4] rfl rfl ?_
    refine v_if_eq X (tgt := 33) dX7_far_21 (by decide) (fun c_21 => ?_) (fun c_21 => ?_)
    · replace h := h.1 c_21
      refine v_lv (lv' := [(0, .ref o_p0)]) [1] rfl ?_
      exact k_X7_far_33 X r h
    · replace h := h.2 c_21
      refine v_aload_n X 1 dX7_far_24 rfl rfl ?_
      refine v_iload_n X 2 dX7_far_25 rfl rfl ?_
      refine v_iload_n X 4 dX7_far_26 rfl rfl ?_
      refine v_callVi X (As := [.int x_1, .int x_3]) (rest := []) 2 0 (c_X7_isPoint (l := vl E) (D := vD E) (T := T) (o_p0 := o_p0) (a_p0 := a_p0) (s_p0_finding := u_2_0) (s_p0_asked := s_p0_asked) (s_p0_newPoints := s_p0_newPoints) (s_p0_newLines := s_p0_newLines) (s_p0_faultAt := s_p0_faultAt) (s_p0_tries := s_p0_tries) (s_p0_things := s_p0_things) (s_p0_goals := s_p0_goals) (s_p0_level := s_p0_level) (s_p0_points := s_p0_points) (x_1 := x_1) (x_2 := x_3) h) gX7_far_X7_isPoint rfl rfl (by decide +kernel) ⟨Nat.zero_le _, Nat.zero_le _⟩ ⟨rfl, rfl, by decide, by decide⟩ (Nat.le_of_ble_eq_true rfl) rfl rfl (wr := [vI T (a_p0 1) 6 u_2_1, vI T (a_p0 4) 6 s_p0_lineCount, vJ T (a_p0 7) 270 s_p0_lines]) [0, 4] [1, 2, 3] rfl rfl rfl rfl (by decide) rfl dX7_far_27 (fun r_27 u h => ?_)
      refine v_ws (ws' := (cl_X7_far T o_p0 a_p0 u_2_0 s_p0_asked s_p0_newPoints s_p0_newLines s_p0_faultAt s_p0_tries s_p0_things s_p0_goals s_p0_level u_2_1 s_p0_lineCount s_p0_lines s_p0_points)) [3, 0, 1, 2, 4] rfl rfl ?_
      refine v_if_ne X (tgt := 39) dX7_far_30 (by decide) (fun c_30 => ?_) (fun c_30 => ?_)
      · replace h := h.1 c_30
        refine v_lconst X dX7_far_39 (v := (1 : Int64)) (by decide) ?_
        refine v_iload_n X 3 dX7_far_40 rfl rfl ?_
        refine v_lshl X dX7_far_41 ?_
        refine v_lstore X (lv' := [(5, .long (vshl (1 : Int64) x_2)), (4, .int r_2), (0, .ref o_p0), (1, .int x_1), (2, .int x_2), (3, .int x_3)]) dX7_far_42 (by decide) rfl ?_
        refine v_iconst X dX7_far_44 (v := (0 : Int32)) (by decide) ?_
        refine v_istore X (lv' := [(7, .int (0 : Int32)), (5, .long (vshl (1 : Int64) x_2)), (4, .int r_2), (0, .ref o_p0), (1, .int x_1), (2, .int x_2), (3, .int x_3)]) dX7_far_45 (by decide) rfl ?_
        refine v_lv (lv' := [(0, .ref o_p0), (1, .int x_1), (3, .int x_3), (5, .long (vshl (1 : Int64) x_2)), (7, .int (0 : Int32))]) [3, 4, 6, 1, 0] rfl ?_
        obtain ⟨n_, h⟩ := h
        exact k_X7_far_47 X r n_ _ _ h
      · replace h := h.2 c_30
        refine v_lv (lv' := [(0, .ref o_p0)]) [1] rfl ?_
        exact k_X7_far_33 X r h
  · replace h := h.2 c_9
    refine v_iload X 0 dX7_far_12 rfl ?_
    exact r _ _ _ (u_2_0, u_2_1) _ dX7_far_14 h rfl
-- X7_askedRow
abbrev cl_X7_askedRow (T : Nat → ClassId) (o_p0 : Nat) (a_p0 : Nat → Nat) (s_p0_finding : Int32) (s_p0_asked : Int64) (s_p0_newPoints : Int32) (s_p0_newLines : Int32) (s_p0_faultAt : Int64) (s_p0_tries : Int32) (s_p0_things : Int32) (s_p0_goals : Int32) (s_p0_level : Int32) (s_p0_findings : Nat → Int32) (s_p0_sizes : Nat → Int32) : va_W := [vO o_p0 4 [.int s_p0_finding, .ref (a_p0 1), .long s_p0_asked, .ref (a_p0 3), .ref (a_p0 4), .ref (a_p0 5), .ref (a_p0 6), .ref (a_p0 7), .int s_p0_newPoints, .int s_p0_newLines, .ref (a_p0 10), .ref (a_p0 11), .long s_p0_faultAt, .int s_p0_tries, .int s_p0_things, .int s_p0_goals, .ref (a_p0 16), .ref (a_p0 17), .ref (a_p0 18), .ref (a_p0 19), .ref (a_p0 20), .ref (a_p0 21), .int s_p0_level, .ref (a_p0 23), .ref (a_p0 24), .ref (a_p0 25), .ref (a_p0 26), .ref (a_p0 27), .ref (a_p0 28), .ref (a_p0 29), .ref (a_p0 30), .ref (a_p0 31), .ref (a_p0 32)], vI T (a_p0 1) 6 s_p0_findings, vI T (a_p0 30) 4 s_p0_sizes]
abbrev r_X7_askedRow (E : vE) (T : Nat → ClassId) (o_p0 : Nat) (a_p0 : Nat → Nat) (s_p0_asked : Int64) (s_p0_newPoints : Int32) (s_p0_newLines : Int32) (s_p0_faultAt : Int64) (s_p0_tries : Int32) (s_p0_things : Int32) (s_p0_goals : Int32) (s_p0_level : Int32) (s_p0_sizes : Nat → Int32) (Q : Int32 → (Int32) → (Nat → Int32) → Prop) : Prop := vRi E cX7_askedRow (fun v (u : (Int32) × (Nat → Int32)) => Q v u.1 u.2) (fun (u : (Int32) × (Nat → Int32)) => (cl_X7_askedRow T o_p0 a_p0 u.1 s_p0_asked s_p0_newPoints s_p0_newLines s_p0_faultAt s_p0_tries s_p0_things s_p0_goals s_p0_level u.2 s_p0_sizes))
def w_X7_askedRow_29 (t_0 : Int32) (s_p0_finding : Int32) (s_p0_findings : Nat → Int32) (s_p0_sizes : Nat → Int32) (Q : Int32 → (Int32) → (Nat → Int32) → Prop) : Prop := (Q t_0 s_p0_finding s_p0_findings)
def w_X7_askedRow (x_1 : Int32) (s_p0_finding : Int32) (s_p0_findings : Nat → Int32) (s_p0_sizes : Nat → Int32) (Q : Int32 → (Int32) → (Nat → Int32) → Prop) : Prop := (w_X7_isRow x_1 (fun (r_1 : Int32) => ((¬ r_1 = 0 → (vp_in x_1 4 ∧ ((0 ≤ (s_p0_sizes (x_1).toNatClampNeg) → (w_X7_askedRow_29 (0 : Int32) s_p0_finding s_p0_findings s_p0_sizes Q)) ∧ (¬ 0 ≤ (s_p0_sizes (x_1).toNatClampNeg) → (w_X7_meets (1 : Int32) s_p0_finding s_p0_findings (fun (r_22 : Int32) (u_22_0 : Int32) (u_22_1 : Nat → Int32) => (w_X7_askedRow_29 r_22 u_22_0 u_22_1 s_p0_sizes Q))))))) ∧ (r_1 = 0 → (w_X7_askedRow_29 (-1 : Int32) s_p0_finding s_p0_findings s_p0_sizes Q)))))
-- X7_askedRow
theorem iX7_askedRow_X7 : ∀ w ∈ wsX70, w ∈ wsX7_askedRow := by decide +kernel
set_option maxHeartbeats 4000000 in
set_option maxRecDepth 100000 in
theorem k_X7_askedRow_29 {E : vE} {T : Nat → ClassId} {o_p0 : Nat} {a_p0 : Nat → Nat} {s_p0_finding : Int32} {s_p0_asked : Int64} {s_p0_newPoints : Int32} {s_p0_newLines : Int32} {s_p0_faultAt : Int64} {s_p0_tries : Int32} {s_p0_things : Int32} {s_p0_goals : Int32} {s_p0_level : Int32} {s_p0_findings : Nat → Int32} {s_p0_sizes : Nat → Int32} {t_0 : Int32} {Q : Int32 → (Int32) → (Nat → Int32) → Prop} (X : vX E cX7_askedRow 2 RX7 wsX7_askedRow (vT T) (vr 2 42)) (r : r_X7_askedRow E T o_p0 a_p0 s_p0_asked s_p0_newPoints s_p0_newLines s_p0_faultAt s_p0_tries s_p0_things s_p0_goals s_p0_level s_p0_sizes Q) (h : w_X7_askedRow_29 t_0 s_p0_finding s_p0_findings s_p0_sizes Q) : V E 0 0 29 [] [.int t_0] (cl_X7_askedRow T o_p0 a_p0 s_p0_finding s_p0_asked s_p0_newPoints s_p0_newLines s_p0_faultAt s_p0_tries s_p0_things s_p0_goals s_p0_level s_p0_findings s_p0_sizes) := by
  unfold w_X7_askedRow_29 at h
  exact r _ _ _ (s_p0_finding, s_p0_findings) _ dX7_askedRow_29 h rfl
set_option maxHeartbeats 4000000 in
set_option maxRecDepth 100000 in
theorem c_X7_askedRow {l : Launch} {D : va_G} {T : Nat → ClassId} {o_p0 : Nat} {a_p0 : Nat → Nat} {s_p0_finding : Int32} {s_p0_asked : Int64} {s_p0_newPoints : Int32} {s_p0_newLines : Int32} {s_p0_faultAt : Int64} {s_p0_tries : Int32} {s_p0_things : Int32} {s_p0_goals : Int32} {s_p0_level : Int32} {s_p0_findings : Nat → Int32} {s_p0_sizes : Nat → Int32} {x_1 : Int32} {Q : Int32 → (Int32) → (Nat → Int32) → Prop} (h : w_X7_askedRow x_1 s_p0_finding s_p0_findings s_p0_sizes Q) : vCi l D (vT T) yX7_askedRow wsX7_askedRow (vr 2 42) [.ref o_p0, .int x_1] (cl_X7_askedRow T o_p0 a_p0 s_p0_finding s_p0_asked s_p0_newPoints s_p0_newLines s_p0_faultAt s_p0_tries s_p0_things s_p0_goals s_p0_level s_p0_findings s_p0_sizes) (fun v (u : (Int32) × (Nat → Int32)) => Q v u.1 u.2) (fun (u : (Int32) × (Nat → Int32)) => (cl_X7_askedRow T o_p0 a_p0 u.1 s_p0_asked s_p0_newPoints s_p0_newLines s_p0_faultAt s_p0_tries s_p0_things s_p0_goals s_p0_level u.2 s_p0_sizes)) := by
  refine vC_i (cc := cX7_askedRow) (nL := 2) (by decide +kernel) rfl ⟨rfl, rfl⟩ (Nat.le_of_ble_eq_true rfl) rfl ?_
  intro E el eD X r
  unfold w_X7_askedRow at h
  refine v_iload_n X 1 dX7_askedRow_0 rfl rfl ?_
  refine v_callSi0 X (As := [.int x_1]) (rest := []) 1 (c_X7_isRow (l := vl E) (D := vD E) (T := T) (x_0 := x_1) h) gX7_askedRow_X7_isRow rfl rfl (by decide +kernel) ⟨Nat.zero_le _, Nat.zero_le _⟩ ⟨rfl, rfl, by decide, by decide⟩ (Nat.le_of_ble_eq_true rfl) rfl dX7_askedRow_1 (fun r_1 h => ?_)
  refine v_if_ne X (tgt := 11) dX7_askedRow_4 (by decide) (fun c_4 => ?_) (fun c_4 => ?_)
  · replace h := h.1 c_4
    refine v_aload_n X 0 dX7_askedRow_11 rfl rfl ?_
    refine v_get X 0 30 (F := TX7) (N := 33) iX7_askedRow_X7 rfl rfl (by decide) (List.mem_of_getElem? (i := 1) rfl) rfl rfl dX7_askedRow_12 ?_
    refine v_iload_n X 1 dX7_askedRow_15 rfl rfl ?_
    refine v_iald X 2 0 rfl rfl h.1 dX7_askedRow_16 ?_
    replace h := h.2
    refine v_if_ge X (tgt := 28) dX7_askedRow_17 (by decide) (fun c_17 => ?_) (fun c_17 => ?_)
    · replace h := h.1 c_17
      refine v_iconst X dX7_askedRow_28 (v := (0 : Int32)) (by decide) ?_
      refine v_lv (lv' := []) [] rfl ?_
      exact k_X7_askedRow_29 X r h
    · replace h := h.2 c_17
      refine v_aload_n X 0 dX7_askedRow_20 rfl rfl ?_
      refine v_iconst X dX7_askedRow_21 (v := (1 : Int32)) (by decide) ?_
      refine v_callVi X (As := [.int (1 : Int32)]) (rest := []) 1 0 (c_X7_meets (l := vl E) (D := vD E) (T := T) (o_p0 := o_p0) (a_p0 := a_p0) (s_p0_finding := s_p0_finding) (s_p0_asked := s_p0_asked) (s_p0_newPoints := s_p0_newPoints) (s_p0_newLines := s_p0_newLines) (s_p0_faultAt := s_p0_faultAt) (s_p0_tries := s_p0_tries) (s_p0_things := s_p0_things) (s_p0_goals := s_p0_goals) (s_p0_level := s_p0_level) (s_p0_findings := s_p0_findings) (x_1 := (1 : Int32)) h) gX7_askedRow_X7_meets rfl rfl (by decide +kernel) ⟨Nat.zero_le _, Nat.zero_le _⟩ ⟨rfl, rfl, by decide, by decide⟩ (Nat.le_of_ble_eq_true rfl) rfl rfl (wr := [vI T (a_p0 30) 4 s_p0_sizes]) [0, 1] [2] rfl rfl rfl rfl (by decide) rfl dX7_askedRow_22 (fun r_22 u h => ?_)
      obtain ⟨u_22_0, u_22_1⟩ := u
      dsimp only at h
      refine v_ws (ws' := (cl_X7_askedRow T o_p0 a_p0 u_22_0 s_p0_asked s_p0_newPoints s_p0_newLines s_p0_faultAt s_p0_tries s_p0_things s_p0_goals s_p0_level u_22_1 s_p0_sizes)) [1, 2, 0] rfl rfl ?_
      refine v_goto X (tgt := 29) dX7_askedRow_25 (by decide) ?_
      refine v_lv (lv' := []) [] rfl ?_
      exact k_X7_askedRow_29 X r h
  · replace h := h.2 c_4
    refine v_iconst X dX7_askedRow_7 (v := (-1 : Int32)) (by decide) ?_
    refine v_goto X (tgt := 29) dX7_askedRow_8 (by decide) ?_
    refine v_lv (lv' := []) [] rfl ?_
    exact k_X7_askedRow_29 X r h
-- X7_row
abbrev cl_X7_row (T : Nat → ClassId) (o_p0 : Nat) (a_p0 : Nat → Nat) (s_p0_finding : Int32) (s_p0_asked : Int64) (s_p0_newPoints : Int32) (s_p0_newLines : Int32) (s_p0_faultAt : Int64) (s_p0_tries : Int32) (s_p0_things : Int32) (s_p0_goals : Int32) (s_p0_level : Int32) (s_p0_findings : Nat → Int32) (s_p0_rows : Nat → Int32) (s_p0_sizes : Nat → Int32) : va_W := [vO o_p0 4 [.int s_p0_finding, .ref (a_p0 1), .long s_p0_asked, .ref (a_p0 3), .ref (a_p0 4), .ref (a_p0 5), .ref (a_p0 6), .ref (a_p0 7), .int s_p0_newPoints, .int s_p0_newLines, .ref (a_p0 10), .ref (a_p0 11), .long s_p0_faultAt, .int s_p0_tries, .int s_p0_things, .int s_p0_goals, .ref (a_p0 16), .ref (a_p0 17), .ref (a_p0 18), .ref (a_p0 19), .ref (a_p0 20), .ref (a_p0 21), .int s_p0_level, .ref (a_p0 23), .ref (a_p0 24), .ref (a_p0 25), .ref (a_p0 26), .ref (a_p0 27), .ref (a_p0 28), .ref (a_p0 29), .ref (a_p0 30), .ref (a_p0 31), .ref (a_p0 32)], vI T (a_p0 1) 6 s_p0_findings, vI T (a_p0 31) 48 s_p0_rows, vI T (a_p0 30) 4 s_p0_sizes]
abbrev r_X7_row (E : vE) (T : Nat → ClassId) (o_p0 : Nat) (a_p0 : Nat → Nat) (s_p0_asked : Int64) (s_p0_newPoints : Int32) (s_p0_newLines : Int32) (s_p0_faultAt : Int64) (s_p0_tries : Int32) (s_p0_things : Int32) (s_p0_goals : Int32) (s_p0_level : Int32) (Q : Int32 → (Int32) → (Nat → Int32) → (Nat → Int32) → (Nat → Int32) → Prop) : Prop := vRi E cX7_row (fun v (u : (Int32) × (Nat → Int32) × (Nat → Int32) × (Nat → Int32)) => Q v u.1 u.2.1 u.2.2.1 u.2.2.2) (fun (u : (Int32) × (Nat → Int32) × (Nat → Int32) × (Nat → Int32)) => (cl_X7_row T o_p0 a_p0 u.1 s_p0_asked s_p0_newPoints s_p0_newLines s_p0_faultAt s_p0_tries s_p0_things s_p0_goals s_p0_level u.2.1 u.2.2.1 u.2.2.2))
def w_X7_row_34s (x_1 : Int32) (x_2 : Int32) (s_p0_finding : Int32) (s_p0_findings : Nat → Int32) (s_p0_sizes : Nat → Int32) (Q : Int32 → (Int32) → (Nat → Int32) → (Nat → Int32) → (Nat → Int32) → Prop) (K_34 : (Int32) → (Nat → Int32) → Prop) (x_3 : Int32) (s_p0_rows : Nat → Int32) : Prop := (((12 : Int32) ≤ x_3 → (Q x_2 s_p0_finding s_p0_findings s_p0_rows s_p0_sizes)) ∧ (¬ (12 : Int32) ≤ x_3 → (vp_in (((12 : Int32) * x_1) + x_3) 48 ∧ (K_34 (x_3 + (1 : Int32)) (upd s_p0_rows ((((12 : Int32) * x_1) + x_3)).toNatClampNeg (0 : Int32))))))
def w_X7_row_34 (x_1 : Int32) (x_2 : Int32) (s_p0_finding : Int32) (s_p0_findings : Nat → Int32) (s_p0_sizes : Nat → Int32) (Q : Int32 → (Int32) → (Nat → Int32) → (Nat → Int32) → (Nat → Int32) → Prop) : Nat → (Int32) → (Nat → Int32) → Prop
  | 0 => fun _ _ => False
  | n_ + 1 => w_X7_row_34s x_1 x_2 s_p0_finding s_p0_findings s_p0_sizes Q (w_X7_row_34 x_1 x_2 s_p0_finding s_p0_findings s_p0_sizes Q n_)
def w_X7_row_13 (s_p0_finding : Int32) (s_p0_findings : Nat → Int32) (s_p0_rows : Nat → Int32) (s_p0_sizes : Nat → Int32) (Q : Int32 → (Int32) → (Nat → Int32) → (Nat → Int32) → (Nat → Int32) → Prop) : Prop := (Q (-1 : Int32) s_p0_finding s_p0_findings s_p0_rows s_p0_sizes)
def w_X7_row (x_1 : Int32) (x_2 : Int32) (s_p0_finding : Int32) (s_p0_findings : Nat → Int32) (s_p0_rows : Nat → Int32) (s_p0_sizes : Nat → Int32) (Q : Int32 → (Int32) → (Nat → Int32) → (Nat → Int32) → (Nat → Int32) → Prop) : Prop := (w_X7_isRow x_1 (fun (r_1 : Int32) => ((r_1 = 0 → (w_X7_row_13 s_p0_finding s_p0_findings s_p0_rows s_p0_sizes Q)) ∧ (¬ r_1 = 0 → ((x_2 ≤ (12 : Int32) → ((0 ≤ x_2 → (vp_in x_1 4 ∧ (∃ n_, w_X7_row_34 x_1 x_2 s_p0_finding s_p0_findings (upd s_p0_sizes (x_1).toNatClampNeg x_2) Q n_ (0 : Int32) s_p0_rows))) ∧ (¬ 0 ≤ x_2 → (w_X7_meets (5 : Int32) s_p0_finding s_p0_findings (fun (r_21 : Int32) (u_21_0 : Int32) (u_21_1 : Nat → Int32) => (Q r_21 u_21_0 u_21_1 s_p0_rows s_p0_sizes)))))) ∧ (¬ x_2 ≤ (12 : Int32) → (w_X7_row_13 s_p0_finding s_p0_findings s_p0_rows s_p0_sizes Q)))))))
-- X7_row
theorem iX7_row_X7 : ∀ w ∈ wsX70, w ∈ wsX7_row := by decide +kernel
set_option maxHeartbeats 4000000 in
set_option maxRecDepth 100000 in
theorem k_X7_row_34 {E : vE} {T : Nat → ClassId} {o_p0 : Nat} {a_p0 : Nat → Nat} {s_p0_finding : Int32} {s_p0_asked : Int64} {s_p0_newPoints : Int32} {s_p0_newLines : Int32} {s_p0_faultAt : Int64} {s_p0_tries : Int32} {s_p0_things : Int32} {s_p0_goals : Int32} {s_p0_level : Int32} {s_p0_findings : Nat → Int32} {s_p0_sizes : Nat → Int32} {x_1 : Int32} {x_2 : Int32} {Q : Int32 → (Int32) → (Nat → Int32) → (Nat → Int32) → (Nat → Int32) → Prop} (X : vX E cX7_row 4 RX7 wsX7_row (vT T) (vr 2 42)) (r : r_X7_row E T o_p0 a_p0 s_p0_asked s_p0_newPoints s_p0_newLines s_p0_faultAt s_p0_tries s_p0_things s_p0_goals s_p0_level Q) : ∀ (n_ : Nat) (x_3 : Int32) (s_p0_rows : Nat → Int32), w_X7_row_34 x_1 x_2 s_p0_finding s_p0_findings s_p0_sizes Q n_ x_3 s_p0_rows → V E 0 0 34 [(0, .ref o_p0), (1, .int x_1), (2, .int x_2), (3, .int x_3)] [] (cl_X7_row T o_p0 a_p0 s_p0_finding s_p0_asked s_p0_newPoints s_p0_newLines s_p0_faultAt s_p0_tries s_p0_things s_p0_goals s_p0_level s_p0_findings s_p0_rows s_p0_sizes) := by
  intro n_
  induction n_ with
  | zero => intro x_3 s_p0_rows h; exact h.elim
  | succ n_ hK_34 =>
    intro x_3 s_p0_rows h
    replace h : w_X7_row_34s x_1 x_2 s_p0_finding s_p0_findings s_p0_sizes Q (w_X7_row_34 x_1 x_2 s_p0_finding s_p0_findings s_p0_sizes Q n_) x_3 s_p0_rows := h
    unfold w_X7_row_34s at h
    refine v_iload_n X 3 dX7_row_34 rfl rfl ?_
    refine v_bipush X dX7_row_35 (v := (12 : Int32)) (by decide) ?_
    refine v_icmp_ge X (tgt := 58) dX7_row_37 (by decide) (fun c_37 => ?_) (fun c_37 => ?_)
    · replace h := h.1 c_37
      refine v_iload_n X 2 dX7_row_58 rfl rfl ?_
      exact r _ _ _ (s_p0_finding, s_p0_findings, s_p0_rows, s_p0_sizes) _ dX7_row_59 h rfl
    · replace h := h.2 c_37
      refine v_aload_n X 0 dX7_row_40 rfl rfl ?_
      refine v_get X 0 31 (F := TX7) (N := 33) iX7_row_X7 rfl rfl (by decide) (List.mem_of_getElem? (i := 2) rfl) rfl rfl dX7_row_41 ?_
      refine v_bipush X dX7_row_44 (v := (12 : Int32)) (by decide) ?_
      refine v_iload_n X 1 dX7_row_46 rfl rfl ?_
      refine v_imul X dX7_row_47 ?_
      refine v_iload_n X 3 dX7_row_48 rfl rfl ?_
      refine v_iadd X dX7_row_49 ?_
      refine v_iconst X dX7_row_50 (v := (0 : Int32)) (by decide) ?_
      refine v_iast X (ws' := (cl_X7_row T o_p0 a_p0 s_p0_finding s_p0_asked s_p0_newPoints s_p0_newLines s_p0_faultAt s_p0_tries s_p0_things s_p0_goals s_p0_level s_p0_findings (upd s_p0_rows ((((12 : Int32) * x_1) + x_3)).toNatClampNeg (0 : Int32)) s_p0_sizes)) 2 0 rfl rfl h.1 rfl dX7_row_51 ?_
      replace h := h.2
      refine v_iinc X (v := (x_3 + (1 : Int32))) (lv' := [(3, .int (x_3 + (1 : Int32))), (0, .ref o_p0), (1, .int x_1), (2, .int x_2)]) 3 dX7_row_52 rfl rfl (by decide) rfl ?_
      refine v_goto X (tgt := 34) dX7_row_55 (by decide) ?_
      refine v_lv (lv' := [(0, .ref o_p0), (1, .int x_1), (2, .int x_2), (3, .int (x_3 + (1 : Int32)))]) [1, 2, 3, 0] rfl ?_
      exact hK_34 _ _ h
set_option maxHeartbeats 4000000 in
set_option maxRecDepth 100000 in
theorem k_X7_row_13 {E : vE} {T : Nat → ClassId} {o_p0 : Nat} {a_p0 : Nat → Nat} {s_p0_finding : Int32} {s_p0_asked : Int64} {s_p0_newPoints : Int32} {s_p0_newLines : Int32} {s_p0_faultAt : Int64} {s_p0_tries : Int32} {s_p0_things : Int32} {s_p0_goals : Int32} {s_p0_level : Int32} {s_p0_findings : Nat → Int32} {s_p0_rows : Nat → Int32} {s_p0_sizes : Nat → Int32} {Q : Int32 → (Int32) → (Nat → Int32) → (Nat → Int32) → (Nat → Int32) → Prop} (X : vX E cX7_row 4 RX7 wsX7_row (vT T) (vr 2 42)) (r : r_X7_row E T o_p0 a_p0 s_p0_asked s_p0_newPoints s_p0_newLines s_p0_faultAt s_p0_tries s_p0_things s_p0_goals s_p0_level Q) (h : w_X7_row_13 s_p0_finding s_p0_findings s_p0_rows s_p0_sizes Q) : V E 0 0 13 [] [] (cl_X7_row T o_p0 a_p0 s_p0_finding s_p0_asked s_p0_newPoints s_p0_newLines s_p0_faultAt s_p0_tries s_p0_things s_p0_goals s_p0_level s_p0_findings s_p0_rows s_p0_sizes) := by
  unfold w_X7_row_13 at h
  refine v_iconst X dX7_row_13 (v := (-1 : Int32)) (by decide) ?_
  exact r _ _ _ (s_p0_finding, s_p0_findings, s_p0_rows, s_p0_sizes) _ dX7_row_14 h rfl
set_option maxHeartbeats 4000000 in
set_option maxRecDepth 100000 in
theorem c_X7_row {l : Launch} {D : va_G} {T : Nat → ClassId} {o_p0 : Nat} {a_p0 : Nat → Nat} {s_p0_finding : Int32} {s_p0_asked : Int64} {s_p0_newPoints : Int32} {s_p0_newLines : Int32} {s_p0_faultAt : Int64} {s_p0_tries : Int32} {s_p0_things : Int32} {s_p0_goals : Int32} {s_p0_level : Int32} {s_p0_findings : Nat → Int32} {s_p0_rows : Nat → Int32} {s_p0_sizes : Nat → Int32} {x_1 : Int32} {x_2 : Int32} {Q : Int32 → (Int32) → (Nat → Int32) → (Nat → Int32) → (Nat → Int32) → Prop} (h : w_X7_row x_1 x_2 s_p0_finding s_p0_findings s_p0_rows s_p0_sizes Q) : vCi l D (vT T) yX7_row wsX7_row (vr 2 42) [.ref o_p0, .int x_1, .int x_2] (cl_X7_row T o_p0 a_p0 s_p0_finding s_p0_asked s_p0_newPoints s_p0_newLines s_p0_faultAt s_p0_tries s_p0_things s_p0_goals s_p0_level s_p0_findings s_p0_rows s_p0_sizes) (fun v (u : (Int32) × (Nat → Int32) × (Nat → Int32) × (Nat → Int32)) => Q v u.1 u.2.1 u.2.2.1 u.2.2.2) (fun (u : (Int32) × (Nat → Int32) × (Nat → Int32) × (Nat → Int32)) => (cl_X7_row T o_p0 a_p0 u.1 s_p0_asked s_p0_newPoints s_p0_newLines s_p0_faultAt s_p0_tries s_p0_things s_p0_goals s_p0_level u.2.1 u.2.2.1 u.2.2.2)) := by
  refine vC_i (cc := cX7_row) (nL := 4) (by decide +kernel) rfl ⟨rfl, rfl⟩ (Nat.le_of_ble_eq_true rfl) rfl ?_
  intro E el eD X r
  unfold w_X7_row at h
  refine v_iload_n X 1 dX7_row_0 rfl rfl ?_
  refine v_callSi0 X (As := [.int x_1]) (rest := []) 1 (c_X7_isRow (l := vl E) (D := vD E) (T := T) (x_0 := x_1) h) gX7_row_X7_isRow rfl rfl (by decide +kernel) ⟨Nat.zero_le _, Nat.zero_le _⟩ ⟨rfl, rfl, by decide, by decide⟩ (Nat.le_of_ble_eq_true rfl) rfl dX7_row_1 (fun r_1 h => ?_)
  refine v_if_eq X (tgt := 13) dX7_row_4 (by decide) (fun c_4 => ?_) (fun c_4 => ?_)
  · replace h := h.1 c_4
    refine v_lv (lv' := []) [] rfl ?_
    exact k_X7_row_13 X r h
  · replace h := h.2 c_4
    refine v_iload_n X 2 dX7_row_7 rfl rfl ?_
    refine v_bipush X dX7_row_8 (v := (12 : Int32)) (by decide) ?_
    refine v_icmp_le X (tgt := 15) dX7_row_10 (by decide) (fun c_10 => ?_) (fun c_10 => ?_)
    · replace h := h.1 c_10
      refine v_iload_n X 2 dX7_row_15 rfl rfl ?_
      refine v_if_ge X (tgt := 25) dX7_row_16 (by decide) (fun c_16 => ?_) (fun c_16 => ?_)
      · replace h := h.1 c_16
        refine v_aload_n X 0 dX7_row_25 rfl rfl ?_
        refine v_get X 0 30 (F := TX7) (N := 33) iX7_row_X7 rfl rfl (by decide) (List.mem_of_getElem? (i := 1) rfl) rfl rfl dX7_row_26 ?_
        refine v_iload_n X 1 dX7_row_29 rfl rfl ?_
        refine v_iload_n X 2 dX7_row_30 rfl rfl ?_
        refine v_iast X (ws' := (cl_X7_row T o_p0 a_p0 s_p0_finding s_p0_asked s_p0_newPoints s_p0_newLines s_p0_faultAt s_p0_tries s_p0_things s_p0_goals s_p0_level s_p0_findings s_p0_rows (upd s_p0_sizes (x_1).toNatClampNeg x_2))) 3 0 rfl rfl h.1 rfl dX7_row_31 ?_
        replace h := h.2
        refine v_iconst X dX7_row_32 (v := (0 : Int32)) (by decide) ?_
        refine v_istore_n X (lv' := [(3, .int (0 : Int32)), (0, .ref o_p0), (1, .int x_1), (2, .int x_2)]) dX7_row_33 rfl (by decide) rfl ?_
        refine v_lv (lv' := [(0, .ref o_p0), (1, .int x_1), (2, .int x_2), (3, .int (0 : Int32))]) [1, 2, 3, 0] rfl ?_
        obtain ⟨n_, h⟩ := h
        exact k_X7_row_34 X r n_ _ _ h
      · replace h := h.2 c_16
        refine v_aload_n X 0 dX7_row_19 rfl rfl ?_
        refine v_iconst X dX7_row_20 (v := (5 : Int32)) (by decide) ?_
        refine v_callVi X (As := [.int (5 : Int32)]) (rest := []) 1 0 (c_X7_meets (l := vl E) (D := vD E) (T := T) (o_p0 := o_p0) (a_p0 := a_p0) (s_p0_finding := s_p0_finding) (s_p0_asked := s_p0_asked) (s_p0_newPoints := s_p0_newPoints) (s_p0_newLines := s_p0_newLines) (s_p0_faultAt := s_p0_faultAt) (s_p0_tries := s_p0_tries) (s_p0_things := s_p0_things) (s_p0_goals := s_p0_goals) (s_p0_level := s_p0_level) (s_p0_findings := s_p0_findings) (x_1 := (5 : Int32)) h) gX7_row_X7_meets rfl rfl (by decide +kernel) ⟨Nat.zero_le _, Nat.zero_le _⟩ ⟨rfl, rfl, by decide, by decide⟩ (Nat.le_of_ble_eq_true rfl) rfl rfl (wr := [vI T (a_p0 31) 48 s_p0_rows, vI T (a_p0 30) 4 s_p0_sizes]) [0, 1] [2, 3] rfl rfl rfl rfl (by decide) rfl dX7_row_21 (fun r_21 u h => ?_)
        obtain ⟨u_21_0, u_21_1⟩ := u
        dsimp only at h
        refine v_ws (ws' := (cl_X7_row T o_p0 a_p0 u_21_0 s_p0_asked s_p0_newPoints s_p0_newLines s_p0_faultAt s_p0_tries s_p0_things s_p0_goals s_p0_level u_21_1 s_p0_rows s_p0_sizes)) [2, 3, 0, 1] rfl rfl ?_
        exact r _ _ _ (u_21_0, u_21_1, s_p0_rows, s_p0_sizes) _ dX7_row_24 h rfl
    · replace h := h.2 c_10
      refine v_lv (lv' := []) [] rfl ?_
      exact k_X7_row_13 X r h
-- X7_lay
abbrev cl_X7_lay (T : Nat → ClassId) (o_p0 : Nat) (a_p0 : Nat → Nat) (s_p0_finding : Int32) (s_p0_asked : Int64) (s_p0_newPoints : Int32) (s_p0_newLines : Int32) (s_p0_faultAt : Int64) (s_p0_tries : Int32) (s_p0_things : Int32) (s_p0_goals : Int32) (s_p0_level : Int32) (s_p0_findings : Nat → Int32) (s_p0_rows : Nat → Int32) (s_p0_sizes : Nat → Int32) : va_W := [vO o_p0 4 [.int s_p0_finding, .ref (a_p0 1), .long s_p0_asked, .ref (a_p0 3), .ref (a_p0 4), .ref (a_p0 5), .ref (a_p0 6), .ref (a_p0 7), .int s_p0_newPoints, .int s_p0_newLines, .ref (a_p0 10), .ref (a_p0 11), .long s_p0_faultAt, .int s_p0_tries, .int s_p0_things, .int s_p0_goals, .ref (a_p0 16), .ref (a_p0 17), .ref (a_p0 18), .ref (a_p0 19), .ref (a_p0 20), .ref (a_p0 21), .int s_p0_level, .ref (a_p0 23), .ref (a_p0 24), .ref (a_p0 25), .ref (a_p0 26), .ref (a_p0 27), .ref (a_p0 28), .ref (a_p0 29), .ref (a_p0 30), .ref (a_p0 31), .ref (a_p0 32)], vI T (a_p0 1) 6 s_p0_findings, vI T (a_p0 31) 48 s_p0_rows, vI T (a_p0 30) 4 s_p0_sizes]
abbrev r_X7_lay (E : vE) (T : Nat → ClassId) (o_p0 : Nat) (a_p0 : Nat → Nat) (s_p0_asked : Int64) (s_p0_newPoints : Int32) (s_p0_newLines : Int32) (s_p0_faultAt : Int64) (s_p0_tries : Int32) (s_p0_things : Int32) (s_p0_goals : Int32) (s_p0_level : Int32) (s_p0_sizes : Nat → Int32) (Q : Int32 → (Int32) → (Nat → Int32) → (Nat → Int32) → Prop) : Prop := vRi E cX7_lay (fun v (u : (Int32) × (Nat → Int32) × (Nat → Int32)) => Q v u.1 u.2.1 u.2.2) (fun (u : (Int32) × (Nat → Int32) × (Nat → Int32)) => (cl_X7_lay T o_p0 a_p0 u.1 s_p0_asked s_p0_newPoints s_p0_newLines s_p0_faultAt s_p0_tries s_p0_things s_p0_goals s_p0_level u.2.1 u.2.2 s_p0_sizes))
def w_X7_lay (x_1 : Int32) (x_2 : Int32) (x_3 : Int32) (s_p0_finding : Int32) (s_p0_findings : Nat → Int32) (s_p0_rows : Nat → Int32) (s_p0_sizes : Nat → Int32) (Q : Int32 → (Int32) → (Nat → Int32) → (Nat → Int32) → Prop) : Prop := (w_X7_askedRow x_1 s_p0_finding s_p0_findings s_p0_sizes (fun (r_2 : Int32) (u_2_0 : Int32) (u_2_1 : Nat → Int32) => ((0 ≤ r_2 → (vp_in x_1 4 ∧ (w_X7_in x_2 (0 : Int32) ((s_p0_sizes (x_1).toNatClampNeg) - (1 : Int32)) (fun (r_25 : Int32) => ((¬ r_25 = 0 → (vp_in (((12 : Int32) * x_1) + x_2) 48 ∧ (vp_in (((12 : Int32) * x_1) + x_2) 48 ∧ (Q ((s_p0_rows ((((12 : Int32) * x_1) + x_2)).toNatClampNeg) + (1000 : Int32)) u_2_0 u_2_1 (upd s_p0_rows ((((12 : Int32) * x_1) + x_2)).toNatClampNeg x_3))))) ∧ (r_25 = 0 → (w_X7_meets (2 : Int32) u_2_0 u_2_1 (fun (r_33 : Int32) (u_33_0 : Int32) (u_33_1 : Nat → Int32) => (Q r_33 u_33_0 u_33_1 s_p0_rows))))))))) ∧ (¬ 0 ≤ r_2 → (Q r_2 u_2_0 u_2_1 s_p0_rows)))))
-- X7_lay
theorem iX7_lay_X7 : ∀ w ∈ wsX70, w ∈ wsX7_lay := by decide +kernel
set_option maxHeartbeats 4000000 in
set_option maxRecDepth 100000 in
theorem c_X7_lay {l : Launch} {D : va_G} {T : Nat → ClassId} {o_p0 : Nat} {a_p0 : Nat → Nat} {s_p0_finding : Int32} {s_p0_asked : Int64} {s_p0_newPoints : Int32} {s_p0_newLines : Int32} {s_p0_faultAt : Int64} {s_p0_tries : Int32} {s_p0_things : Int32} {s_p0_goals : Int32} {s_p0_level : Int32} {s_p0_findings : Nat → Int32} {s_p0_rows : Nat → Int32} {s_p0_sizes : Nat → Int32} {x_1 : Int32} {x_2 : Int32} {x_3 : Int32} {Q : Int32 → (Int32) → (Nat → Int32) → (Nat → Int32) → Prop} (h : w_X7_lay x_1 x_2 x_3 s_p0_finding s_p0_findings s_p0_rows s_p0_sizes Q) : vCi l D (vT T) yX7_lay wsX7_lay (vr 3 63) [.ref o_p0, .int x_1, .int x_2, .int x_3] (cl_X7_lay T o_p0 a_p0 s_p0_finding s_p0_asked s_p0_newPoints s_p0_newLines s_p0_faultAt s_p0_tries s_p0_things s_p0_goals s_p0_level s_p0_findings s_p0_rows s_p0_sizes) (fun v (u : (Int32) × (Nat → Int32) × (Nat → Int32)) => Q v u.1 u.2.1 u.2.2) (fun (u : (Int32) × (Nat → Int32) × (Nat → Int32)) => (cl_X7_lay T o_p0 a_p0 u.1 s_p0_asked s_p0_newPoints s_p0_newLines s_p0_faultAt s_p0_tries s_p0_things s_p0_goals s_p0_level u.2.1 u.2.2 s_p0_sizes)) := by
  refine vC_i (cc := cX7_lay) (nL := 6) (by decide +kernel) rfl ⟨rfl, rfl⟩ (Nat.le_of_ble_eq_true rfl) rfl ?_
  intro E el eD X r
  unfold w_X7_lay at h
  refine v_aload_n X 0 dX7_lay_0 rfl rfl ?_
  refine v_iload_n X 1 dX7_lay_1 rfl rfl ?_
  refine v_callVi X (As := [.int x_1]) (rest := []) 1 0 (c_X7_askedRow (l := vl E) (D := vD E) (T := T) (o_p0 := o_p0) (a_p0 := a_p0) (s_p0_finding := s_p0_finding) (s_p0_asked := s_p0_asked) (s_p0_newPoints := s_p0_newPoints) (s_p0_newLines := s_p0_newLines) (s_p0_faultAt := s_p0_faultAt) (s_p0_tries := s_p0_tries) (s_p0_things := s_p0_things) (s_p0_goals := s_p0_goals) (s_p0_level := s_p0_level) (s_p0_findings := s_p0_findings) (s_p0_sizes := s_p0_sizes) (x_1 := x_1) h) gX7_lay_X7_askedRow rfl rfl (by decide +kernel) ⟨Nat.zero_le _, Nat.zero_le _⟩ ⟨rfl, rfl, by decide, by decide⟩ (Nat.le_of_ble_eq_true rfl) rfl rfl (wr := [vI T (a_p0 31) 48 s_p0_rows]) [0, 1, 3] [2] rfl rfl rfl rfl (by decide) rfl dX7_lay_2 (fun r_2 u h => ?_)
  obtain ⟨u_2_0, u_2_1⟩ := u
  dsimp only at h
  refine v_ws (ws' := (cl_X7_lay T o_p0 a_p0 u_2_0 s_p0_asked s_p0_newPoints s_p0_newLines s_p0_faultAt s_p0_tries s_p0_things s_p0_goals s_p0_level u_2_1 s_p0_rows s_p0_sizes)) [1, 2, 0, 3] rfl rfl ?_
  refine v_istore X (lv' := [(4, .int r_2), (0, .ref o_p0), (1, .int x_1), (2, .int x_2), (3, .int x_3)]) dX7_lay_5 (by decide) rfl ?_
  refine v_iload X 0 dX7_lay_7 rfl ?_
  refine v_if_ge X (tgt := 15) dX7_lay_9 (by decide) (fun c_9 => ?_) (fun c_9 => ?_)
  · replace h := h.1 c_9
    refine v_iload_n X 3 dX7_lay_15 rfl rfl ?_
    refine v_iconst X dX7_lay_16 (v := (0 : Int32)) (by decide) ?_
    refine v_aload_n X 1 dX7_lay_17 rfl rfl ?_
    refine v_get X 0 30 (F := TX7) (N := 33) iX7_lay_X7 rfl rfl (by decide) (List.mem_of_getElem? (i := 1) rfl) rfl rfl dX7_lay_18 ?_
    refine v_iload_n X 2 dX7_lay_21 rfl rfl ?_
    refine v_iald X 3 0 rfl rfl h.1 dX7_lay_22 ?_
    replace h := h.2
    refine v_iconst X dX7_lay_23 (v := (1 : Int32)) (by decide) ?_
    refine v_isub X dX7_lay_24 ?_
    refine v_callSi0 X (As := [.int x_2, .int (0 : Int32), .int ((s_p0_sizes (x_1).toNatClampNeg) - (1 : Int32))]) (rest := []) 3 (c_X7_in (l := vl E) (D := vD E) (T := T) (x_0 := x_2) (x_1 := (0 : Int32)) (x_2 := ((s_p0_sizes (x_1).toNatClampNeg) - (1 : Int32))) h) gX7_lay_X7_in rfl rfl (by decide +kernel) ⟨Nat.zero_le _, Nat.zero_le _⟩ ⟨rfl, rfl, by decide, by decide⟩ (Nat.le_of_ble_eq_true rfl) rfl dX7_lay_25 (fun r_25 h => ?_)
    refine v_if_ne X (tgt := 37) dX7_lay_28 (by decide) (fun c_28 => ?_) (fun c_28 => ?_)
    · replace h := h.1 c_28
      refine v_aload_n X 1 dX7_lay_37 rfl rfl ?_
      refine v_get X 0 31 (F := TX7) (N := 33) iX7_lay_X7 rfl rfl (by decide) (List.mem_of_getElem? (i := 2) rfl) rfl rfl dX7_lay_38 ?_
      refine v_bipush X dX7_lay_41 (v := (12 : Int32)) (by decide) ?_
      refine v_iload_n X 2 dX7_lay_43 rfl rfl ?_
      refine v_imul X dX7_lay_44 ?_
      refine v_iload_n X 3 dX7_lay_45 rfl rfl ?_
      refine v_iadd X dX7_lay_46 ?_
      refine v_iald X 2 0 rfl rfl h.1 dX7_lay_47 ?_
      replace h := h.2
      refine v_istore X (lv' := [(5, .int (s_p0_rows ((((12 : Int32) * x_1) + x_2)).toNatClampNeg)), (4, .int r_2), (0, .ref o_p0), (1, .int x_1), (2, .int x_2), (3, .int x_3)]) dX7_lay_48 (by decide) rfl ?_
      refine v_aload_n X 2 dX7_lay_50 rfl rfl ?_
      refine v_get X 0 31 (F := TX7) (N := 33) iX7_lay_X7 rfl rfl (by decide) (List.mem_of_getElem? (i := 2) rfl) rfl rfl dX7_lay_51 ?_
      refine v_bipush X dX7_lay_54 (v := (12 : Int32)) (by decide) ?_
      refine v_iload_n X 3 dX7_lay_56 rfl rfl ?_
      refine v_imul X dX7_lay_57 ?_
      refine v_iload_n X 4 dX7_lay_58 rfl rfl ?_
      refine v_iadd X dX7_lay_59 ?_
      refine v_iload_n X 5 dX7_lay_60 rfl rfl ?_
      refine v_iast X (ws' := (cl_X7_lay T o_p0 a_p0 u_2_0 s_p0_asked s_p0_newPoints s_p0_newLines s_p0_faultAt s_p0_tries s_p0_things s_p0_goals s_p0_level u_2_1 (upd s_p0_rows ((((12 : Int32) * x_1) + x_2)).toNatClampNeg x_3) s_p0_sizes)) 2 0 rfl rfl h.1 rfl dX7_lay_61 ?_
      replace h := h.2
      refine v_iload X 0 dX7_lay_62 rfl ?_
      refine v_sipush X dX7_lay_64 (v := (1000 : Int32)) (by decide) ?_
      refine v_iadd X dX7_lay_67 ?_
      exact r _ _ _ (u_2_0, u_2_1, (upd s_p0_rows ((((12 : Int32) * x_1) + x_2)).toNatClampNeg x_3)) _ dX7_lay_68 h rfl
    · replace h := h.2 c_28
      refine v_aload_n X 1 dX7_lay_31 rfl rfl ?_
      refine v_iconst X dX7_lay_32 (v := (2 : Int32)) (by decide) ?_
      refine v_callVi X (As := [.int (2 : Int32)]) (rest := []) 1 0 (c_X7_meets (l := vl E) (D := vD E) (T := T) (o_p0 := o_p0) (a_p0 := a_p0) (s_p0_finding := u_2_0) (s_p0_asked := s_p0_asked) (s_p0_newPoints := s_p0_newPoints) (s_p0_newLines := s_p0_newLines) (s_p0_faultAt := s_p0_faultAt) (s_p0_tries := s_p0_tries) (s_p0_things := s_p0_things) (s_p0_goals := s_p0_goals) (s_p0_level := s_p0_level) (s_p0_findings := u_2_1) (x_1 := (2 : Int32)) h) gX7_lay_X7_meets rfl rfl (by decide +kernel) ⟨Nat.zero_le _, Nat.zero_le _⟩ ⟨rfl, rfl, by decide, by decide⟩ (Nat.le_of_ble_eq_true rfl) rfl rfl (wr := [vI T (a_p0 31) 48 s_p0_rows, vI T (a_p0 30) 4 s_p0_sizes]) [0, 1] [2, 3] rfl rfl rfl rfl (by decide) rfl dX7_lay_33 (fun r_33 u h => ?_)
      obtain ⟨u_33_0, u_33_1⟩ := u
      dsimp only at h
      refine v_ws (ws' := (cl_X7_lay T o_p0 a_p0 u_33_0 s_p0_asked s_p0_newPoints s_p0_newLines s_p0_faultAt s_p0_tries s_p0_things s_p0_goals s_p0_level u_33_1 s_p0_rows s_p0_sizes)) [2, 3, 0, 1] rfl rfl ?_
      exact r _ _ _ (u_33_0, u_33_1, s_p0_rows) _ dX7_lay_36 h rfl
  · replace h := h.2 c_9
    refine v_iload X 0 dX7_lay_12 rfl ?_
    exact r _ _ _ (u_2_0, u_2_1, s_p0_rows) _ dX7_lay_14 h rfl
-- X7_tear
abbrev cl_X7_tear (T : Nat → ClassId) (o_p0 : Nat) (a_p0 : Nat → Nat) (s_p0_finding : Int32) (s_p0_asked : Int64) (s_p0_newPoints : Int32) (s_p0_newLines : Int32) (s_p0_faultAt : Int64) (s_p0_tries : Int32) (s_p0_things : Int32) (s_p0_goals : Int32) (s_p0_level : Int32) (s_p0_findings : Nat → Int32) (s_p0_sizes : Nat → Int32) : va_W := [vO o_p0 4 [.int s_p0_finding, .ref (a_p0 1), .long s_p0_asked, .ref (a_p0 3), .ref (a_p0 4), .ref (a_p0 5), .ref (a_p0 6), .ref (a_p0 7), .int s_p0_newPoints, .int s_p0_newLines, .ref (a_p0 10), .ref (a_p0 11), .long s_p0_faultAt, .int s_p0_tries, .int s_p0_things, .int s_p0_goals, .ref (a_p0 16), .ref (a_p0 17), .ref (a_p0 18), .ref (a_p0 19), .ref (a_p0 20), .ref (a_p0 21), .int s_p0_level, .ref (a_p0 23), .ref (a_p0 24), .ref (a_p0 25), .ref (a_p0 26), .ref (a_p0 27), .ref (a_p0 28), .ref (a_p0 29), .ref (a_p0 30), .ref (a_p0 31), .ref (a_p0 32)], vI T (a_p0 1) 6 s_p0_findings, vI T (a_p0 30) 4 s_p0_sizes]
abbrev r_X7_tear (E : vE) (T : Nat → ClassId) (o_p0 : Nat) (a_p0 : Nat → Nat) (s_p0_asked : Int64) (s_p0_newPoints : Int32) (s_p0_newLines : Int32) (s_p0_faultAt : Int64) (s_p0_tries : Int32) (s_p0_things : Int32) (s_p0_goals : Int32) (s_p0_level : Int32) (Q : Int32 → (Int32) → (Nat → Int32) → (Nat → Int32) → Prop) : Prop := vRi E cX7_tear (fun v (u : (Int32) × (Nat → Int32) × (Nat → Int32)) => Q v u.1 u.2.1 u.2.2) (fun (u : (Int32) × (Nat → Int32) × (Nat → Int32)) => (cl_X7_tear T o_p0 a_p0 u.1 s_p0_asked s_p0_newPoints s_p0_newLines s_p0_faultAt s_p0_tries s_p0_things s_p0_goals s_p0_level u.2.1 u.2.2))
def w_X7_tear (x_1 : Int32) (s_p0_finding : Int32) (s_p0_findings : Nat → Int32) (s_p0_sizes : Nat → Int32) (Q : Int32 → (Int32) → (Nat → Int32) → (Nat → Int32) → Prop) : Prop := (w_X7_askedRow x_1 s_p0_finding s_p0_findings s_p0_sizes (fun (r_2 : Int32) (u_2_0 : Int32) (u_2_1 : Nat → Int32) => ((0 ≤ r_2 → (vp_in x_1 4 ∧ (Q (1 : Int32) u_2_0 u_2_1 (upd s_p0_sizes (x_1).toNatClampNeg (-9 : Int32))))) ∧ (¬ 0 ≤ r_2 → (Q r_2 u_2_0 u_2_1 s_p0_sizes)))))
-- X7_tear
theorem iX7_tear_X7 : ∀ w ∈ wsX70, w ∈ wsX7_tear := by decide +kernel
set_option maxHeartbeats 4000000 in
set_option maxRecDepth 100000 in
theorem c_X7_tear {l : Launch} {D : va_G} {T : Nat → ClassId} {o_p0 : Nat} {a_p0 : Nat → Nat} {s_p0_finding : Int32} {s_p0_asked : Int64} {s_p0_newPoints : Int32} {s_p0_newLines : Int32} {s_p0_faultAt : Int64} {s_p0_tries : Int32} {s_p0_things : Int32} {s_p0_goals : Int32} {s_p0_level : Int32} {s_p0_findings : Nat → Int32} {s_p0_sizes : Nat → Int32} {x_1 : Int32} {Q : Int32 → (Int32) → (Nat → Int32) → (Nat → Int32) → Prop} (h : w_X7_tear x_1 s_p0_finding s_p0_findings s_p0_sizes Q) : vCi l D (vT T) yX7_tear wsX7_tear (vr 3 63) [.ref o_p0, .int x_1] (cl_X7_tear T o_p0 a_p0 s_p0_finding s_p0_asked s_p0_newPoints s_p0_newLines s_p0_faultAt s_p0_tries s_p0_things s_p0_goals s_p0_level s_p0_findings s_p0_sizes) (fun v (u : (Int32) × (Nat → Int32) × (Nat → Int32)) => Q v u.1 u.2.1 u.2.2) (fun (u : (Int32) × (Nat → Int32) × (Nat → Int32)) => (cl_X7_tear T o_p0 a_p0 u.1 s_p0_asked s_p0_newPoints s_p0_newLines s_p0_faultAt s_p0_tries s_p0_things s_p0_goals s_p0_level u.2.1 u.2.2)) := by
  refine vC_i (cc := cX7_tear) (nL := 3) (by decide +kernel) rfl ⟨rfl, rfl⟩ (Nat.le_of_ble_eq_true rfl) rfl ?_
  intro E el eD X r
  unfold w_X7_tear at h
  refine v_aload_n X 0 dX7_tear_0 rfl rfl ?_
  refine v_iload_n X 1 dX7_tear_1 rfl rfl ?_
  refine v_callVi X (As := [.int x_1]) (rest := []) 1 0 (c_X7_askedRow (l := vl E) (D := vD E) (T := T) (o_p0 := o_p0) (a_p0 := a_p0) (s_p0_finding := s_p0_finding) (s_p0_asked := s_p0_asked) (s_p0_newPoints := s_p0_newPoints) (s_p0_newLines := s_p0_newLines) (s_p0_faultAt := s_p0_faultAt) (s_p0_tries := s_p0_tries) (s_p0_things := s_p0_things) (s_p0_goals := s_p0_goals) (s_p0_level := s_p0_level) (s_p0_findings := s_p0_findings) (s_p0_sizes := s_p0_sizes) (x_1 := x_1) h) gX7_tear_X7_askedRow rfl rfl (by decide +kernel) ⟨Nat.zero_le _, Nat.zero_le _⟩ ⟨rfl, rfl, by decide, by decide⟩ (Nat.le_of_ble_eq_true rfl) rfl rfl (wr := []) [0, 1, 2] [] rfl rfl rfl rfl (by decide) rfl dX7_tear_2 (fun r_2 u h => ?_)
  obtain ⟨u_2_0, u_2_1⟩ := u
  dsimp only at h
  refine v_ws (ws' := (cl_X7_tear T o_p0 a_p0 u_2_0 s_p0_asked s_p0_newPoints s_p0_newLines s_p0_faultAt s_p0_tries s_p0_things s_p0_goals s_p0_level u_2_1 s_p0_sizes)) [0, 1, 2] rfl rfl ?_
  refine v_istore_n X (lv' := [(2, .int r_2), (0, .ref o_p0), (1, .int x_1)]) dX7_tear_5 rfl (by decide) rfl ?_
  refine v_iload_n X 0 dX7_tear_6 rfl rfl ?_
  refine v_if_ge X (tgt := 12) dX7_tear_7 (by decide) (fun c_7 => ?_) (fun c_7 => ?_)
  · replace h := h.1 c_7
    refine v_aload_n X 1 dX7_tear_12 rfl rfl ?_
    refine v_get X 0 30 (F := TX7) (N := 33) iX7_tear_X7 rfl rfl (by decide) (List.mem_of_getElem? (i := 1) rfl) rfl rfl dX7_tear_13 ?_
    refine v_iload_n X 2 dX7_tear_16 rfl rfl ?_
    refine v_bipush X dX7_tear_17 (v := (-9 : Int32)) (by decide) ?_
    refine v_iast X (ws' := (cl_X7_tear T o_p0 a_p0 u_2_0 s_p0_asked s_p0_newPoints s_p0_newLines s_p0_faultAt s_p0_tries s_p0_things s_p0_goals s_p0_level u_2_1 (upd s_p0_sizes (x_1).toNatClampNeg (-9 : Int32)))) 2 0 rfl rfl h.1 rfl dX7_tear_19 ?_
    replace h := h.2
    refine v_iconst X dX7_tear_20 (v := (1 : Int32)) (by decide) ?_
    exact r _ _ _ (u_2_0, u_2_1, (upd s_p0_sizes (x_1).toNatClampNeg (-9 : Int32))) _ dX7_tear_21 h rfl
  · replace h := h.2 c_7
    refine v_iload_n X 0 dX7_tear_10 rfl rfl ?_
    exact r _ _ _ (u_2_0, u_2_1, s_p0_sizes) _ dX7_tear_11 h rfl
-- X7_copy
abbrev cl_X7_copy (T : Nat → ClassId) (o_p0 : Nat) (a_p0 : Nat → Nat) (s_p0_finding : Int32) (s_p0_asked : Int64) (s_p0_newPoints : Int32) (s_p0_newLines : Int32) (s_p0_faultAt : Int64) (s_p0_tries : Int32) (s_p0_things : Int32) (s_p0_goals : Int32) (s_p0_level : Int32) (s_p0_findings : Nat → Int32) (s_p0_moving : Nat → Int32) (s_p0_rows : Nat → Int32) (s_p0_sizes : Nat → Int32) : va_W := [vO o_p0 4 [.int s_p0_finding, .ref (a_p0 1), .long s_p0_asked, .ref (a_p0 3), .ref (a_p0 4), .ref (a_p0 5), .ref (a_p0 6), .ref (a_p0 7), .int s_p0_newPoints, .int s_p0_newLines, .ref (a_p0 10), .ref (a_p0 11), .long s_p0_faultAt, .int s_p0_tries, .int s_p0_things, .int s_p0_goals, .ref (a_p0 16), .ref (a_p0 17), .ref (a_p0 18), .ref (a_p0 19), .ref (a_p0 20), .ref (a_p0 21), .int s_p0_level, .ref (a_p0 23), .ref (a_p0 24), .ref (a_p0 25), .ref (a_p0 26), .ref (a_p0 27), .ref (a_p0 28), .ref (a_p0 29), .ref (a_p0 30), .ref (a_p0 31), .ref (a_p0 32)], vI T (a_p0 1) 6 s_p0_findings, vI T (a_p0 32) 12 s_p0_moving, vI T (a_p0 31) 48 s_p0_rows, vI T (a_p0 30) 4 s_p0_sizes]
abbrev r_X7_copy (E : vE) (T : Nat → ClassId) (o_p0 : Nat) (a_p0 : Nat → Nat) (s_p0_asked : Int64) (s_p0_newPoints : Int32) (s_p0_newLines : Int32) (s_p0_faultAt : Int64) (s_p0_tries : Int32) (s_p0_things : Int32) (s_p0_goals : Int32) (s_p0_level : Int32) (s_p0_sizes : Nat → Int32) (Q : Int32 → (Int32) → (Nat → Int32) → (Nat → Int32) → (Nat → Int32) → Prop) : Prop := vRi E cX7_copy (fun v (u : (Int32) × (Nat → Int32) × (Nat → Int32) × (Nat → Int32)) => Q v u.1 u.2.1 u.2.2.1 u.2.2.2) (fun (u : (Int32) × (Nat → Int32) × (Nat → Int32) × (Nat → Int32)) => (cl_X7_copy T o_p0 a_p0 u.1 s_p0_asked s_p0_newPoints s_p0_newLines s_p0_faultAt s_p0_tries s_p0_things s_p0_goals s_p0_level u.2.1 u.2.2.1 u.2.2.2 s_p0_sizes))
def w_X7_copy_141s (x_3 : Int32) (x_4 : Int32) (x_5 : Int32) (s_p0_finding : Int32) (s_p0_findings : Nat → Int32) (s_p0_moving : Nat → Int32) (s_p0_sizes : Nat → Int32) (Q : Int32 → (Int32) → (Nat → Int32) → (Nat → Int32) → (Nat → Int32) → Prop) (K_141 : (Int32) → (Nat → Int32) → Prop) (x_6 : Int32) (s_p0_rows : Nat → Int32) : Prop := ((x_5 ≤ x_6 → (Q (1 : Int32) s_p0_finding s_p0_findings s_p0_moving s_p0_rows)) ∧ (¬ x_5 ≤ x_6 → (vp_in x_6 12 ∧ (vp_in ((((12 : Int32) * x_3) + x_4) + x_6) 48 ∧ (K_141 (x_6 + (1 : Int32)) (upd s_p0_rows (((((12 : Int32) * x_3) + x_4) + x_6)).toNatClampNeg (s_p0_moving (x_6).toNatClampNeg)))))))
def w_X7_copy_141 (x_3 : Int32) (x_4 : Int32) (x_5 : Int32) (s_p0_finding : Int32) (s_p0_findings : Nat → Int32) (s_p0_moving : Nat → Int32) (s_p0_sizes : Nat → Int32) (Q : Int32 → (Int32) → (Nat → Int32) → (Nat → Int32) → (Nat → Int32) → Prop) : Nat → (Int32) → (Nat → Int32) → Prop
  | 0 => fun _ _ => False
  | n_ + 1 => w_X7_copy_141s x_3 x_4 x_5 s_p0_finding s_p0_findings s_p0_moving s_p0_sizes Q (w_X7_copy_141 x_3 x_4 x_5 s_p0_finding s_p0_findings s_p0_moving s_p0_sizes Q n_)
def w_X7_copy_104s (x_1 : Int32) (x_2 : Int32) (x_3 : Int32) (x_4 : Int32) (x_5 : Int32) (s_p0_finding : Int32) (s_p0_findings : Nat → Int32) (s_p0_rows : Nat → Int32) (s_p0_sizes : Nat → Int32) (Q : Int32 → (Int32) → (Nat → Int32) → (Nat → Int32) → (Nat → Int32) → Prop) (K_104 : (Int32) → (Nat → Int32) → Prop) (x_6 : Int32) (s_p0_moving : Nat → Int32) : Prop := ((x_5 ≤ x_6 → (∃ n_, w_X7_copy_141 x_3 x_4 x_5 s_p0_finding s_p0_findings s_p0_moving s_p0_sizes Q n_ (0 : Int32) s_p0_rows)) ∧ (¬ x_5 ≤ x_6 → (vp_in ((((12 : Int32) * x_1) + x_2) + x_6) 48 ∧ (vp_in x_6 12 ∧ (K_104 (x_6 + (1 : Int32)) (upd s_p0_moving (x_6).toNatClampNeg (s_p0_rows (((((12 : Int32) * x_1) + x_2) + x_6)).toNatClampNeg)))))))
def w_X7_copy_104 (x_1 : Int32) (x_2 : Int32) (x_3 : Int32) (x_4 : Int32) (x_5 : Int32) (s_p0_finding : Int32) (s_p0_findings : Nat → Int32) (s_p0_rows : Nat → Int32) (s_p0_sizes : Nat → Int32) (Q : Int32 → (Int32) → (Nat → Int32) → (Nat → Int32) → (Nat → Int32) → Prop) : Nat → (Int32) → (Nat → Int32) → Prop
  | 0 => fun _ _ => False
  | n_ + 1 => w_X7_copy_104s x_1 x_2 x_3 x_4 x_5 s_p0_finding s_p0_findings s_p0_rows s_p0_sizes Q (w_X7_copy_104 x_1 x_2 x_3 x_4 x_5 s_p0_finding s_p0_findings s_p0_rows s_p0_sizes Q n_)
def w_X7_copy_95 (s_p0_finding : Int32) (s_p0_findings : Nat → Int32) (s_p0_moving : Nat → Int32) (s_p0_rows : Nat → Int32) (s_p0_sizes : Nat → Int32) (Q : Int32 → (Int32) → (Nat → Int32) → (Nat → Int32) → (Nat → Int32) → Prop) : Prop := (w_X7_meets (2 : Int32) s_p0_finding s_p0_findings (fun (r_97 : Int32) (u_97_0 : Int32) (u_97_1 : Nat → Int32) => (Q r_97 u_97_0 u_97_1 s_p0_moving s_p0_rows)))
def w_X7_copy_45 (s_p0_finding : Int32) (s_p0_findings : Nat → Int32) (s_p0_moving : Nat → Int32) (s_p0_rows : Nat → Int32) (s_p0_sizes : Nat → Int32) (Q : Int32 → (Int32) → (Nat → Int32) → (Nat → Int32) → (Nat → Int32) → Prop) : Prop := (w_X7_meets (1 : Int32) s_p0_finding s_p0_findings (fun (r_47 : Int32) (u_47_0 : Int32) (u_47_1 : Nat → Int32) => (Q r_47 u_47_0 u_47_1 s_p0_moving s_p0_rows)))
def w_X7_copy_14 (s_p0_finding : Int32) (s_p0_findings : Nat → Int32) (s_p0_moving : Nat → Int32) (s_p0_rows : Nat → Int32) (s_p0_sizes : Nat → Int32) (Q : Int32 → (Int32) → (Nat → Int32) → (Nat → Int32) → (Nat → Int32) → Prop) : Prop := (Q (-1 : Int32) s_p0_finding s_p0_findings s_p0_moving s_p0_rows)
def w_X7_copy (x_1 : Int32) (x_2 : Int32) (x_3 : Int32) (x_4 : Int32) (x_5 : Int32) (s_p0_finding : Int32) (s_p0_findings : Nat → Int32) (s_p0_moving : Nat → Int32) (s_p0_rows : Nat → Int32) (s_p0_sizes : Nat → Int32) (Q : Int32 → (Int32) → (Nat → Int32) → (Nat → Int32) → (Nat → Int32) → Prop) : Prop := (w_X7_isRow x_1 (fun (r_1 : Int32) => ((r_1 = 0 → (w_X7_copy_14 s_p0_finding s_p0_findings s_p0_moving s_p0_rows s_p0_sizes Q)) ∧ (¬ r_1 = 0 → (w_X7_isRow x_3 (fun (r_8 : Int32) => ((¬ r_8 = 0 → ((0 ≤ x_5 → (vp_in x_1 4 ∧ (((s_p0_sizes (x_1).toNatClampNeg) < 0 → (w_X7_copy_45 s_p0_finding s_p0_findings s_p0_moving s_p0_rows s_p0_sizes Q)) ∧ (¬ (s_p0_sizes (x_1).toNatClampNeg) < 0 → (vp_in x_3 4 ∧ ((0 ≤ (s_p0_sizes (x_3).toNatClampNeg) → ((x_2 < 0 → (w_X7_copy_95 s_p0_finding s_p0_findings s_p0_moving s_p0_rows s_p0_sizes Q)) ∧ (¬ x_2 < 0 → ((x_4 < 0 → (w_X7_copy_95 s_p0_finding s_p0_findings s_p0_moving s_p0_rows s_p0_sizes Q)) ∧ (¬ x_4 < 0 → (vp_in x_1 4 ∧ ((0 < (lg_cmp ((x_2).toInt64 + (x_5).toInt64) ((s_p0_sizes (x_1).toNatClampNeg)).toInt64) → (w_X7_copy_95 s_p0_finding s_p0_findings s_p0_moving s_p0_rows s_p0_sizes Q)) ∧ (¬ 0 < (lg_cmp ((x_2).toInt64 + (x_5).toInt64) ((s_p0_sizes (x_1).toNatClampNeg)).toInt64) → (vp_in x_3 4 ∧ (((lg_cmp ((x_4).toInt64 + (x_5).toInt64) ((s_p0_sizes (x_3).toNatClampNeg)).toInt64) ≤ 0 → (∃ n_, w_X7_copy_104 x_1 x_2 x_3 x_4 x_5 s_p0_finding s_p0_findings s_p0_rows s_p0_sizes Q n_ (0 : Int32) s_p0_moving)) ∧ (¬ (lg_cmp ((x_4).toInt64 + (x_5).toInt64) ((s_p0_sizes (x_3).toNatClampNeg)).toInt64) ≤ 0 → (w_X7_copy_95 s_p0_finding s_p0_findings s_p0_moving s_p0_rows s_p0_sizes Q)))))))))))) ∧ (¬ 0 ≤ (s_p0_sizes (x_3).toNatClampNeg) → (w_X7_copy_45 s_p0_finding s_p0_findings s_p0_moving s_p0_rows s_p0_sizes Q)))))))) ∧ (¬ 0 ≤ x_5 → (w_X7_meets (5 : Int32) s_p0_finding s_p0_findings (fun (r_23 : Int32) (u_23_0 : Int32) (u_23_1 : Nat → Int32) => (Q r_23 u_23_0 u_23_1 s_p0_moving s_p0_rows)))))) ∧ (r_8 = 0 → (w_X7_copy_14 s_p0_finding s_p0_findings s_p0_moving s_p0_rows s_p0_sizes Q)))))))))
-- X7_copy
theorem iX7_copy_X7 : ∀ w ∈ wsX70, w ∈ wsX7_copy := by decide +kernel
set_option maxHeartbeats 4000000 in
set_option maxRecDepth 100000 in
theorem k_X7_copy_141 {E : vE} {T : Nat → ClassId} {o_p0 : Nat} {a_p0 : Nat → Nat} {s_p0_finding : Int32} {s_p0_asked : Int64} {s_p0_newPoints : Int32} {s_p0_newLines : Int32} {s_p0_faultAt : Int64} {s_p0_tries : Int32} {s_p0_things : Int32} {s_p0_goals : Int32} {s_p0_level : Int32} {s_p0_findings : Nat → Int32} {s_p0_moving : Nat → Int32} {s_p0_sizes : Nat → Int32} {x_3 : Int32} {x_4 : Int32} {x_5 : Int32} {Q : Int32 → (Int32) → (Nat → Int32) → (Nat → Int32) → (Nat → Int32) → Prop} (X : vX E cX7_copy 7 RX7 wsX7_copy (vT T) (vr 2 42)) (r : r_X7_copy E T o_p0 a_p0 s_p0_asked s_p0_newPoints s_p0_newLines s_p0_faultAt s_p0_tries s_p0_things s_p0_goals s_p0_level s_p0_sizes Q) : ∀ (n_ : Nat) (x_6 : Int32) (s_p0_rows : Nat → Int32), w_X7_copy_141 x_3 x_4 x_5 s_p0_finding s_p0_findings s_p0_moving s_p0_sizes Q n_ x_6 s_p0_rows → V E 0 0 141 [(0, .ref o_p0), (3, .int x_3), (4, .int x_4), (5, .int x_5), (6, .int x_6)] [] (cl_X7_copy T o_p0 a_p0 s_p0_finding s_p0_asked s_p0_newPoints s_p0_newLines s_p0_faultAt s_p0_tries s_p0_things s_p0_goals s_p0_level s_p0_findings s_p0_moving s_p0_rows s_p0_sizes) := by
  intro n_
  induction n_ with
  | zero => intro x_6 s_p0_rows h; exact h.elim
  | succ n_ hK_141 =>
    intro x_6 s_p0_rows h
    replace h : w_X7_copy_141s x_3 x_4 x_5 s_p0_finding s_p0_findings s_p0_moving s_p0_sizes Q (w_X7_copy_141 x_3 x_4 x_5 s_p0_finding s_p0_findings s_p0_moving s_p0_sizes Q n_) x_6 s_p0_rows := h
    unfold w_X7_copy_141s at h
    refine v_iload X 4 dX7_copy_141 rfl ?_
    refine v_iload X 3 dX7_copy_143 rfl ?_
    refine v_icmp_ge X (tgt := 176) dX7_copy_145 (by decide) (fun c_145 => ?_) (fun c_145 => ?_)
    · replace h := h.1 c_145
      refine v_iconst X dX7_copy_176 (v := (1 : Int32)) (by decide) ?_
      exact r _ _ _ (s_p0_finding, s_p0_findings, s_p0_moving, s_p0_rows) _ dX7_copy_177 h rfl
    · replace h := h.2 c_145
      refine v_aload_n X 0 dX7_copy_148 rfl rfl ?_
      refine v_get X 0 31 (F := TX7) (N := 33) iX7_copy_X7 rfl rfl (by decide) (List.mem_of_getElem? (i := 3) rfl) rfl rfl dX7_copy_149 ?_
      refine v_bipush X dX7_copy_152 (v := (12 : Int32)) (by decide) ?_
      refine v_iload_n X 1 dX7_copy_154 rfl rfl ?_
      refine v_imul X dX7_copy_155 ?_
      refine v_iload X 2 dX7_copy_156 rfl ?_
      refine v_iadd X dX7_copy_158 ?_
      refine v_iload X 4 dX7_copy_159 rfl ?_
      refine v_iadd X dX7_copy_161 ?_
      refine v_aload_n X 0 dX7_copy_162 rfl rfl ?_
      refine v_get X 0 32 (F := TX7) (N := 33) iX7_copy_X7 rfl rfl (by decide) (List.mem_of_getElem? (i := 2) rfl) rfl rfl dX7_copy_163 ?_
      refine v_iload X 4 dX7_copy_166 rfl ?_
      refine v_iald X 2 0 rfl rfl h.1 dX7_copy_168 ?_
      replace h := h.2
      refine v_iast X (ws' := (cl_X7_copy T o_p0 a_p0 s_p0_finding s_p0_asked s_p0_newPoints s_p0_newLines s_p0_faultAt s_p0_tries s_p0_things s_p0_goals s_p0_level s_p0_findings s_p0_moving (upd s_p0_rows (((((12 : Int32) * x_3) + x_4) + x_6)).toNatClampNeg (s_p0_moving (x_6).toNatClampNeg)) s_p0_sizes)) 3 0 rfl rfl h.1 rfl dX7_copy_169 ?_
      replace h := h.2
      refine v_iinc X (v := (x_6 + (1 : Int32))) (lv' := [(6, .int (x_6 + (1 : Int32))), (0, .ref o_p0), (3, .int x_3), (4, .int x_4), (5, .int x_5)]) 4 dX7_copy_170 rfl rfl (by decide) rfl ?_
      refine v_goto X (tgt := 141) dX7_copy_173 (by decide) ?_
      refine v_lv (lv' := [(0, .ref o_p0), (3, .int x_3), (4, .int x_4), (5, .int x_5), (6, .int (x_6 + (1 : Int32)))]) [1, 2, 3, 4, 0] rfl ?_
      exact hK_141 _ _ h
set_option maxHeartbeats 4000000 in
set_option maxRecDepth 100000 in
theorem k_X7_copy_104 {E : vE} {T : Nat → ClassId} {o_p0 : Nat} {a_p0 : Nat → Nat} {s_p0_finding : Int32} {s_p0_asked : Int64} {s_p0_newPoints : Int32} {s_p0_newLines : Int32} {s_p0_faultAt : Int64} {s_p0_tries : Int32} {s_p0_things : Int32} {s_p0_goals : Int32} {s_p0_level : Int32} {s_p0_findings : Nat → Int32} {s_p0_rows : Nat → Int32} {s_p0_sizes : Nat → Int32} {x_1 : Int32} {x_2 : Int32} {x_3 : Int32} {x_4 : Int32} {x_5 : Int32} {Q : Int32 → (Int32) → (Nat → Int32) → (Nat → Int32) → (Nat → Int32) → Prop} (X : vX E cX7_copy 7 RX7 wsX7_copy (vT T) (vr 2 42)) (r : r_X7_copy E T o_p0 a_p0 s_p0_asked s_p0_newPoints s_p0_newLines s_p0_faultAt s_p0_tries s_p0_things s_p0_goals s_p0_level s_p0_sizes Q) : ∀ (n_ : Nat) (x_6 : Int32) (s_p0_moving : Nat → Int32), w_X7_copy_104 x_1 x_2 x_3 x_4 x_5 s_p0_finding s_p0_findings s_p0_rows s_p0_sizes Q n_ x_6 s_p0_moving → V E 0 0 104 [(0, .ref o_p0), (1, .int x_1), (2, .int x_2), (3, .int x_3), (4, .int x_4), (5, .int x_5), (6, .int x_6)] [] (cl_X7_copy T o_p0 a_p0 s_p0_finding s_p0_asked s_p0_newPoints s_p0_newLines s_p0_faultAt s_p0_tries s_p0_things s_p0_goals s_p0_level s_p0_findings s_p0_moving s_p0_rows s_p0_sizes) := by
  intro n_
  induction n_ with
  | zero => intro x_6 s_p0_moving h; exact h.elim
  | succ n_ hK_104 =>
    intro x_6 s_p0_moving h
    replace h : w_X7_copy_104s x_1 x_2 x_3 x_4 x_5 s_p0_finding s_p0_findings s_p0_rows s_p0_sizes Q (w_X7_copy_104 x_1 x_2 x_3 x_4 x_5 s_p0_finding s_p0_findings s_p0_rows s_p0_sizes Q n_) x_6 s_p0_moving := h
    unfold w_X7_copy_104s at h
    refine v_iload X 6 dX7_copy_104 rfl ?_
    refine v_iload X 5 dX7_copy_106 rfl ?_
    refine v_icmp_ge X (tgt := 138) dX7_copy_108 (by decide) (fun c_108 => ?_) (fun c_108 => ?_)
    · replace h := h.1 c_108
      refine v_iconst X dX7_copy_138 (v := (0 : Int32)) (by decide) ?_
      refine v_istore X (lv' := [(6, .int (0 : Int32)), (0, .ref o_p0), (1, .int x_1), (2, .int x_2), (3, .int x_3), (4, .int x_4), (5, .int x_5)]) dX7_copy_139 (by decide) rfl ?_
      refine v_lv (lv' := [(0, .ref o_p0), (3, .int x_3), (4, .int x_4), (5, .int x_5), (6, .int (0 : Int32))]) [1, 4, 5, 6, 0] rfl ?_
      obtain ⟨n_, h⟩ := h
      exact k_X7_copy_141 X r n_ _ _ h
    · replace h := h.2 c_108
      refine v_aload_n X 0 dX7_copy_111 rfl rfl ?_
      refine v_get X 0 32 (F := TX7) (N := 33) iX7_copy_X7 rfl rfl (by decide) (List.mem_of_getElem? (i := 2) rfl) rfl rfl dX7_copy_112 ?_
      refine v_iload X 6 dX7_copy_115 rfl ?_
      refine v_aload_n X 0 dX7_copy_117 rfl rfl ?_
      refine v_get X 0 31 (F := TX7) (N := 33) iX7_copy_X7 rfl rfl (by decide) (List.mem_of_getElem? (i := 3) rfl) rfl rfl dX7_copy_118 ?_
      refine v_bipush X dX7_copy_121 (v := (12 : Int32)) (by decide) ?_
      refine v_iload_n X 1 dX7_copy_123 rfl rfl ?_
      refine v_imul X dX7_copy_124 ?_
      refine v_iload_n X 2 dX7_copy_125 rfl rfl ?_
      refine v_iadd X dX7_copy_126 ?_
      refine v_iload X 6 dX7_copy_127 rfl ?_
      refine v_iadd X dX7_copy_129 ?_
      refine v_iald X 3 0 rfl rfl h.1 dX7_copy_130 ?_
      replace h := h.2
      refine v_iast X (ws' := (cl_X7_copy T o_p0 a_p0 s_p0_finding s_p0_asked s_p0_newPoints s_p0_newLines s_p0_faultAt s_p0_tries s_p0_things s_p0_goals s_p0_level s_p0_findings (upd s_p0_moving (x_6).toNatClampNeg (s_p0_rows (((((12 : Int32) * x_1) + x_2) + x_6)).toNatClampNeg)) s_p0_rows s_p0_sizes)) 2 0 rfl rfl h.1 rfl dX7_copy_131 ?_
      replace h := h.2
      refine v_iinc X (v := (x_6 + (1 : Int32))) (lv' := [(6, .int (x_6 + (1 : Int32))), (0, .ref o_p0), (1, .int x_1), (2, .int x_2), (3, .int x_3), (4, .int x_4), (5, .int x_5)]) 6 dX7_copy_132 rfl rfl (by decide) rfl ?_
      refine v_goto X (tgt := 104) dX7_copy_135 (by decide) ?_
      refine v_lv (lv' := [(0, .ref o_p0), (1, .int x_1), (2, .int x_2), (3, .int x_3), (4, .int x_4), (5, .int x_5), (6, .int (x_6 + (1 : Int32)))]) [1, 2, 3, 4, 5, 6, 0] rfl ?_
      exact hK_104 _ _ h
set_option maxHeartbeats 4000000 in
set_option maxRecDepth 100000 in
theorem k_X7_copy_95 {E : vE} {T : Nat → ClassId} {o_p0 : Nat} {a_p0 : Nat → Nat} {s_p0_finding : Int32} {s_p0_asked : Int64} {s_p0_newPoints : Int32} {s_p0_newLines : Int32} {s_p0_faultAt : Int64} {s_p0_tries : Int32} {s_p0_things : Int32} {s_p0_goals : Int32} {s_p0_level : Int32} {s_p0_findings : Nat → Int32} {s_p0_moving : Nat → Int32} {s_p0_rows : Nat → Int32} {s_p0_sizes : Nat → Int32} {Q : Int32 → (Int32) → (Nat → Int32) → (Nat → Int32) → (Nat → Int32) → Prop} (X : vX E cX7_copy 7 RX7 wsX7_copy (vT T) (vr 2 42)) (r : r_X7_copy E T o_p0 a_p0 s_p0_asked s_p0_newPoints s_p0_newLines s_p0_faultAt s_p0_tries s_p0_things s_p0_goals s_p0_level s_p0_sizes Q) (h : w_X7_copy_95 s_p0_finding s_p0_findings s_p0_moving s_p0_rows s_p0_sizes Q) : V E 0 0 95 [(0, .ref o_p0)] [] (cl_X7_copy T o_p0 a_p0 s_p0_finding s_p0_asked s_p0_newPoints s_p0_newLines s_p0_faultAt s_p0_tries s_p0_things s_p0_goals s_p0_level s_p0_findings s_p0_moving s_p0_rows s_p0_sizes) := by
  unfold w_X7_copy_95 at h
  refine v_aload_n X 0 dX7_copy_95 rfl rfl ?_
  refine v_iconst X dX7_copy_96 (v := (2 : Int32)) (by decide) ?_
  refine v_callVi X (As := [.int (2 : Int32)]) (rest := []) 1 0 (c_X7_meets (l := vl E) (D := vD E) (T := T) (o_p0 := o_p0) (a_p0 := a_p0) (s_p0_finding := s_p0_finding) (s_p0_asked := s_p0_asked) (s_p0_newPoints := s_p0_newPoints) (s_p0_newLines := s_p0_newLines) (s_p0_faultAt := s_p0_faultAt) (s_p0_tries := s_p0_tries) (s_p0_things := s_p0_things) (s_p0_goals := s_p0_goals) (s_p0_level := s_p0_level) (s_p0_findings := s_p0_findings) (x_1 := (2 : Int32)) h) gX7_copy_X7_meets rfl rfl (by decide +kernel) ⟨Nat.zero_le _, Nat.zero_le _⟩ ⟨rfl, rfl, by decide, by decide⟩ (Nat.le_of_ble_eq_true rfl) rfl rfl (wr := [vI T (a_p0 32) 12 s_p0_moving, vI T (a_p0 31) 48 s_p0_rows, vI T (a_p0 30) 4 s_p0_sizes]) [0, 1] [2, 3, 4] rfl rfl rfl rfl (by decide) rfl dX7_copy_97 (fun r_97 u h => ?_)
  obtain ⟨u_97_0, u_97_1⟩ := u
  dsimp only at h
  refine v_ws (ws' := (cl_X7_copy T o_p0 a_p0 u_97_0 s_p0_asked s_p0_newPoints s_p0_newLines s_p0_faultAt s_p0_tries s_p0_things s_p0_goals s_p0_level u_97_1 s_p0_moving s_p0_rows s_p0_sizes)) [3, 4, 0, 1, 2] rfl rfl ?_
  exact r _ _ _ (u_97_0, u_97_1, s_p0_moving, s_p0_rows) _ dX7_copy_100 h rfl
set_option maxHeartbeats 4000000 in
set_option maxRecDepth 100000 in
theorem k_X7_copy_45 {E : vE} {T : Nat → ClassId} {o_p0 : Nat} {a_p0 : Nat → Nat} {s_p0_finding : Int32} {s_p0_asked : Int64} {s_p0_newPoints : Int32} {s_p0_newLines : Int32} {s_p0_faultAt : Int64} {s_p0_tries : Int32} {s_p0_things : Int32} {s_p0_goals : Int32} {s_p0_level : Int32} {s_p0_findings : Nat → Int32} {s_p0_moving : Nat → Int32} {s_p0_rows : Nat → Int32} {s_p0_sizes : Nat → Int32} {Q : Int32 → (Int32) → (Nat → Int32) → (Nat → Int32) → (Nat → Int32) → Prop} (X : vX E cX7_copy 7 RX7 wsX7_copy (vT T) (vr 2 42)) (r : r_X7_copy E T o_p0 a_p0 s_p0_asked s_p0_newPoints s_p0_newLines s_p0_faultAt s_p0_tries s_p0_things s_p0_goals s_p0_level s_p0_sizes Q) (h : w_X7_copy_45 s_p0_finding s_p0_findings s_p0_moving s_p0_rows s_p0_sizes Q) : V E 0 0 45 [(0, .ref o_p0)] [] (cl_X7_copy T o_p0 a_p0 s_p0_finding s_p0_asked s_p0_newPoints s_p0_newLines s_p0_faultAt s_p0_tries s_p0_things s_p0_goals s_p0_level s_p0_findings s_p0_moving s_p0_rows s_p0_sizes) := by
  unfold w_X7_copy_45 at h
  refine v_aload_n X 0 dX7_copy_45 rfl rfl ?_
  refine v_iconst X dX7_copy_46 (v := (1 : Int32)) (by decide) ?_
  refine v_callVi X (As := [.int (1 : Int32)]) (rest := []) 1 0 (c_X7_meets (l := vl E) (D := vD E) (T := T) (o_p0 := o_p0) (a_p0 := a_p0) (s_p0_finding := s_p0_finding) (s_p0_asked := s_p0_asked) (s_p0_newPoints := s_p0_newPoints) (s_p0_newLines := s_p0_newLines) (s_p0_faultAt := s_p0_faultAt) (s_p0_tries := s_p0_tries) (s_p0_things := s_p0_things) (s_p0_goals := s_p0_goals) (s_p0_level := s_p0_level) (s_p0_findings := s_p0_findings) (x_1 := (1 : Int32)) h) gX7_copy_X7_meets rfl rfl (by decide +kernel) ⟨Nat.zero_le _, Nat.zero_le _⟩ ⟨rfl, rfl, by decide, by decide⟩ (Nat.le_of_ble_eq_true rfl) rfl rfl (wr := [vI T (a_p0 32) 12 s_p0_moving, vI T (a_p0 31) 48 s_p0_rows, vI T (a_p0 30) 4 s_p0_sizes]) [0, 1] [2, 3, 4] rfl rfl rfl rfl (by decide) rfl dX7_copy_47 (fun r_47 u h => ?_)
  obtain ⟨u_47_0, u_47_1⟩ := u
  dsimp only at h
  refine v_ws (ws' := (cl_X7_copy T o_p0 a_p0 u_47_0 s_p0_asked s_p0_newPoints s_p0_newLines s_p0_faultAt s_p0_tries s_p0_things s_p0_goals s_p0_level u_47_1 s_p0_moving s_p0_rows s_p0_sizes)) [3, 4, 0, 1, 2] rfl rfl ?_
  exact r _ _ _ (u_47_0, u_47_1, s_p0_moving, s_p0_rows) _ dX7_copy_50 h rfl
set_option maxHeartbeats 4000000 in
set_option maxRecDepth 100000 in
theorem k_X7_copy_14 {E : vE} {T : Nat → ClassId} {o_p0 : Nat} {a_p0 : Nat → Nat} {s_p0_finding : Int32} {s_p0_asked : Int64} {s_p0_newPoints : Int32} {s_p0_newLines : Int32} {s_p0_faultAt : Int64} {s_p0_tries : Int32} {s_p0_things : Int32} {s_p0_goals : Int32} {s_p0_level : Int32} {s_p0_findings : Nat → Int32} {s_p0_moving : Nat → Int32} {s_p0_rows : Nat → Int32} {s_p0_sizes : Nat → Int32} {Q : Int32 → (Int32) → (Nat → Int32) → (Nat → Int32) → (Nat → Int32) → Prop} (X : vX E cX7_copy 7 RX7 wsX7_copy (vT T) (vr 2 42)) (r : r_X7_copy E T o_p0 a_p0 s_p0_asked s_p0_newPoints s_p0_newLines s_p0_faultAt s_p0_tries s_p0_things s_p0_goals s_p0_level s_p0_sizes Q) (h : w_X7_copy_14 s_p0_finding s_p0_findings s_p0_moving s_p0_rows s_p0_sizes Q) : V E 0 0 14 [] [] (cl_X7_copy T o_p0 a_p0 s_p0_finding s_p0_asked s_p0_newPoints s_p0_newLines s_p0_faultAt s_p0_tries s_p0_things s_p0_goals s_p0_level s_p0_findings s_p0_moving s_p0_rows s_p0_sizes) := by
  unfold w_X7_copy_14 at h
  refine v_iconst X dX7_copy_14 (v := (-1 : Int32)) (by decide) ?_
  exact r _ _ _ (s_p0_finding, s_p0_findings, s_p0_moving, s_p0_rows) _ dX7_copy_15 h rfl
set_option maxHeartbeats 4000000 in
set_option maxRecDepth 100000 in
theorem c_X7_copy {l : Launch} {D : va_G} {T : Nat → ClassId} {o_p0 : Nat} {a_p0 : Nat → Nat} {s_p0_finding : Int32} {s_p0_asked : Int64} {s_p0_newPoints : Int32} {s_p0_newLines : Int32} {s_p0_faultAt : Int64} {s_p0_tries : Int32} {s_p0_things : Int32} {s_p0_goals : Int32} {s_p0_level : Int32} {s_p0_findings : Nat → Int32} {s_p0_moving : Nat → Int32} {s_p0_rows : Nat → Int32} {s_p0_sizes : Nat → Int32} {x_1 : Int32} {x_2 : Int32} {x_3 : Int32} {x_4 : Int32} {x_5 : Int32} {Q : Int32 → (Int32) → (Nat → Int32) → (Nat → Int32) → (Nat → Int32) → Prop} (h : w_X7_copy x_1 x_2 x_3 x_4 x_5 s_p0_finding s_p0_findings s_p0_moving s_p0_rows s_p0_sizes Q) : vCi l D (vT T) yX7_copy wsX7_copy (vr 2 42) [.ref o_p0, .int x_1, .int x_2, .int x_3, .int x_4, .int x_5] (cl_X7_copy T o_p0 a_p0 s_p0_finding s_p0_asked s_p0_newPoints s_p0_newLines s_p0_faultAt s_p0_tries s_p0_things s_p0_goals s_p0_level s_p0_findings s_p0_moving s_p0_rows s_p0_sizes) (fun v (u : (Int32) × (Nat → Int32) × (Nat → Int32) × (Nat → Int32)) => Q v u.1 u.2.1 u.2.2.1 u.2.2.2) (fun (u : (Int32) × (Nat → Int32) × (Nat → Int32) × (Nat → Int32)) => (cl_X7_copy T o_p0 a_p0 u.1 s_p0_asked s_p0_newPoints s_p0_newLines s_p0_faultAt s_p0_tries s_p0_things s_p0_goals s_p0_level u.2.1 u.2.2.1 u.2.2.2 s_p0_sizes)) := by
  refine vC_i (cc := cX7_copy) (nL := 7) (by decide +kernel) rfl ⟨rfl, rfl⟩ (Nat.le_of_ble_eq_true rfl) rfl ?_
  intro E el eD X r
  unfold w_X7_copy at h
  refine v_iload_n X 1 dX7_copy_0 rfl rfl ?_
  refine v_callSi0 X (As := [.int x_1]) (rest := []) 1 (c_X7_isRow (l := vl E) (D := vD E) (T := T) (x_0 := x_1) h) gX7_copy_X7_isRow rfl rfl (by decide +kernel) ⟨Nat.zero_le _, Nat.zero_le _⟩ ⟨rfl, rfl, by decide, by decide⟩ (Nat.le_of_ble_eq_true rfl) rfl dX7_copy_1 (fun r_1 h => ?_)
  refine v_if_eq X (tgt := 14) dX7_copy_4 (by decide) (fun c_4 => ?_) (fun c_4 => ?_)
  · replace h := h.1 c_4
    refine v_lv (lv' := []) [] rfl ?_
    exact k_X7_copy_14 X r h
  · replace h := h.2 c_4
    refine v_iload_n X 3 dX7_copy_7 rfl rfl ?_
    refine v_callSi0 X (As := [.int x_3]) (rest := []) 1 (c_X7_isRow (l := vl E) (D := vD E) (T := T) (x_0 := x_3) h) gX7_copy_X7_isRow rfl rfl (by decide +kernel) ⟨Nat.zero_le _, Nat.zero_le _⟩ ⟨rfl, rfl, by decide, by decide⟩ (Nat.le_of_ble_eq_true rfl) rfl dX7_copy_8 (fun r_8 h => ?_)
    refine v_if_ne X (tgt := 16) dX7_copy_11 (by decide) (fun c_11 => ?_) (fun c_11 => ?_)
    · replace h := h.1 c_11
      refine v_iload X 5 dX7_copy_16 rfl ?_
      refine v_if_ge X (tgt := 27) dX7_copy_18 (by decide) (fun c_18 => ?_) (fun c_18 => ?_)
      · replace h := h.1 c_18
        refine v_aload_n X 0 dX7_copy_27 rfl rfl ?_
        refine v_get X 0 30 (F := TX7) (N := 33) iX7_copy_X7 rfl rfl (by decide) (List.mem_of_getElem? (i := 1) rfl) rfl rfl dX7_copy_28 ?_
        refine v_iload_n X 1 dX7_copy_31 rfl rfl ?_
        refine v_iald X 4 0 rfl rfl h.1 dX7_copy_32 ?_
        replace h := h.2
        refine v_if_lt X (tgt := 45) dX7_copy_33 (by decide) (fun c_33 => ?_) (fun c_33 => ?_)
        · replace h := h.1 c_33
          refine v_lv (lv' := [(0, .ref o_p0)]) [0] rfl ?_
          exact k_X7_copy_45 X r h
        · replace h := h.2 c_33
          refine v_aload_n X 0 dX7_copy_36 rfl rfl ?_
          refine v_get X 0 30 (F := TX7) (N := 33) iX7_copy_X7 rfl rfl (by decide) (List.mem_of_getElem? (i := 1) rfl) rfl rfl dX7_copy_37 ?_
          refine v_iload_n X 3 dX7_copy_40 rfl rfl ?_
          refine v_iald X 4 0 rfl rfl h.1 dX7_copy_41 ?_
          replace h := h.2
          refine v_if_ge X (tgt := 51) dX7_copy_42 (by decide) (fun c_42 => ?_) (fun c_42 => ?_)
          · replace h := h.1 c_42
            refine v_iload_n X 2 dX7_copy_51 rfl rfl ?_
            refine v_if_lt X (tgt := 95) dX7_copy_52 (by decide) (fun c_52 => ?_) (fun c_52 => ?_)
            · replace h := h.1 c_52
              refine v_lv (lv' := [(0, .ref o_p0)]) [0] rfl ?_
              exact k_X7_copy_95 X r h
            · replace h := h.2 c_52
              refine v_iload X 4 dX7_copy_55 rfl ?_
              refine v_if_lt X (tgt := 95) dX7_copy_57 (by decide) (fun c_57 => ?_) (fun c_57 => ?_)
              · replace h := h.1 c_57
                refine v_lv (lv' := [(0, .ref o_p0)]) [0] rfl ?_
                exact k_X7_copy_95 X r h
              · replace h := h.2 c_57
                refine v_iload_n X 2 dX7_copy_60 rfl rfl ?_
                refine v_i2l X dX7_copy_61 ?_
                refine v_iload X 5 dX7_copy_62 rfl ?_
                refine v_i2l X dX7_copy_64 ?_
                refine v_ladd X dX7_copy_65 ?_
                refine v_aload_n X 0 dX7_copy_66 rfl rfl ?_
                refine v_get X 0 30 (F := TX7) (N := 33) iX7_copy_X7 rfl rfl (by decide) (List.mem_of_getElem? (i := 1) rfl) rfl rfl dX7_copy_67 ?_
                refine v_iload_n X 1 dX7_copy_70 rfl rfl ?_
                refine v_iald X 4 0 rfl rfl h.1 dX7_copy_71 ?_
                replace h := h.2
                refine v_i2l X dX7_copy_72 ?_
                refine v_lcmp X dX7_copy_73 ?_
                refine v_if_gt X (tgt := 95) dX7_copy_74 (by decide) (fun c_74 => ?_) (fun c_74 => ?_)
                · replace h := h.1 c_74
                  refine v_lv (lv' := [(0, .ref o_p0)]) [0] rfl ?_
                  exact k_X7_copy_95 X r h
                · replace h := h.2 c_74
                  refine v_iload X 4 dX7_copy_77 rfl ?_
                  refine v_i2l X dX7_copy_79 ?_
                  refine v_iload X 5 dX7_copy_80 rfl ?_
                  refine v_i2l X dX7_copy_82 ?_
                  refine v_ladd X dX7_copy_83 ?_
                  refine v_aload_n X 0 dX7_copy_84 rfl rfl ?_
                  refine v_get X 0 30 (F := TX7) (N := 33) iX7_copy_X7 rfl rfl (by decide) (List.mem_of_getElem? (i := 1) rfl) rfl rfl dX7_copy_85 ?_
                  refine v_iload_n X 3 dX7_copy_88 rfl rfl ?_
                  refine v_iald X 4 0 rfl rfl h.1 dX7_copy_89 ?_
                  replace h := h.2
                  refine v_i2l X dX7_copy_90 ?_
                  refine v_lcmp X dX7_copy_91 ?_
                  refine v_if_le X (tgt := 101) dX7_copy_92 (by decide) (fun c_92 => ?_) (fun c_92 => ?_)
                  · replace h := h.1 c_92
                    refine v_iconst X dX7_copy_101 (v := (0 : Int32)) (by decide) ?_
                    refine v_istore X (lv' := [(6, .int (0 : Int32)), (0, .ref o_p0), (1, .int x_1), (2, .int x_2), (3, .int x_3), (4, .int x_4), (5, .int x_5)]) dX7_copy_102 (by decide) rfl ?_
                    refine v_lv (lv' := [(0, .ref o_p0), (1, .int x_1), (2, .int x_2), (3, .int x_3), (4, .int x_4), (5, .int x_5), (6, .int (0 : Int32))]) [1, 2, 3, 4, 5, 6, 0] rfl ?_
                    obtain ⟨n_, h⟩ := h
                    exact k_X7_copy_104 X r n_ _ _ h
                  · replace h := h.2 c_92
                    refine v_lv (lv' := [(0, .ref o_p0)]) [0] rfl ?_
                    exact k_X7_copy_95 X r h
          · replace h := h.2 c_42
            refine v_lv (lv' := [(0, .ref o_p0)]) [0] rfl ?_
            exact k_X7_copy_45 X r h
      · replace h := h.2 c_18
        refine v_aload_n X 0 dX7_copy_21 rfl rfl ?_
        refine v_iconst X dX7_copy_22 (v := (5 : Int32)) (by decide) ?_
        refine v_callVi X (As := [.int (5 : Int32)]) (rest := []) 1 0 (c_X7_meets (l := vl E) (D := vD E) (T := T) (o_p0 := o_p0) (a_p0 := a_p0) (s_p0_finding := s_p0_finding) (s_p0_asked := s_p0_asked) (s_p0_newPoints := s_p0_newPoints) (s_p0_newLines := s_p0_newLines) (s_p0_faultAt := s_p0_faultAt) (s_p0_tries := s_p0_tries) (s_p0_things := s_p0_things) (s_p0_goals := s_p0_goals) (s_p0_level := s_p0_level) (s_p0_findings := s_p0_findings) (x_1 := (5 : Int32)) h) gX7_copy_X7_meets rfl rfl (by decide +kernel) ⟨Nat.zero_le _, Nat.zero_le _⟩ ⟨rfl, rfl, by decide, by decide⟩ (Nat.le_of_ble_eq_true rfl) rfl rfl (wr := [vI T (a_p0 32) 12 s_p0_moving, vI T (a_p0 31) 48 s_p0_rows, vI T (a_p0 30) 4 s_p0_sizes]) [0, 1] [2, 3, 4] rfl rfl rfl rfl (by decide) rfl dX7_copy_23 (fun r_23 u h => ?_)
        obtain ⟨u_23_0, u_23_1⟩ := u
        dsimp only at h
        refine v_ws (ws' := (cl_X7_copy T o_p0 a_p0 u_23_0 s_p0_asked s_p0_newPoints s_p0_newLines s_p0_faultAt s_p0_tries s_p0_things s_p0_goals s_p0_level u_23_1 s_p0_moving s_p0_rows s_p0_sizes)) [3, 4, 0, 1, 2] rfl rfl ?_
        exact r _ _ _ (u_23_0, u_23_1, s_p0_moving, s_p0_rows) _ dX7_copy_26 h rfl
    · replace h := h.2 c_11
      refine v_lv (lv' := []) [] rfl ?_
      exact k_X7_copy_14 X r h