-- X0_firstMeeting
abbrev cl_X0_firstMeeting (T : Nat → ClassId) (o_p0 : Nat) (a_p0 : Nat → Nat) (s_p0_there : Int32) (s_p0_kind : Int32) (s_p0_tag : Int32) (s_p0_size : Int32) (s_p0_lineCount : Int32) (s_p0_sets : Nat → Int64) (s_p0_through : Nat → Int64) : va_W := [vO o_p0 2 [.ref (a_p0 0), .ref (a_p0 1), .ref (a_p0 2), .int s_p0_there, .int s_p0_kind, .int s_p0_tag, .int s_p0_size, .int s_p0_lineCount], vJ T (a_p0 0) 45 s_p0_sets, vJ T (a_p0 1) 45 s_p0_through]
abbrev r_X0_firstMeeting (E : vE) (T : Nat → ClassId) (o_p0 : Nat) (a_p0 : Nat → Nat) (s_p0_there : Int32) (s_p0_kind : Int32) (s_p0_tag : Int32) (s_p0_size : Int32) (s_p0_lineCount : Int32) (s_p0_sets : Nat → Int64) (s_p0_through : Nat → Int64) (Q : Int32 → Prop) : Prop := vRi E cX0_firstMeeting (fun v (u : Unit) => Q v) (fun (u : Unit) => (cl_X0_firstMeeting T o_p0 a_p0 s_p0_there s_p0_kind s_p0_tag s_p0_size s_p0_lineCount s_p0_sets s_p0_through))
def w_X0_firstMeeting_90 (x_1 : Int32) (x_2 : Int64) (x_4 : Int32) (s_p0_size : Int32) (s_p0_lineCount : Int32) (s_p0_sets : Nat → Int64) (s_p0_through : Nat → Int64) (K_2 : (Int32) → Prop) (K_24 : (Int32) → Prop) (Q : Int32 → Prop) : Prop := (K_24 (x_4 + (1 : Int32)))
def w_X0_firstMeeting_80 (x_1 : Int32) (x_4 : Int32) (t_0 : Int32) (t_1 : Int32) (s_p0_size : Int32) (s_p0_lineCount : Int32) (s_p0_sets : Nat → Int64) (s_p0_through : Nat → Int64) (Q : Int32 → Prop) : Prop := (Q (((t_0 * t_1) + ((100 : Int32) * x_1)) + x_4))
def w_X0_firstMeeting_24s (x_1 : Int32) (x_2 : Int64) (s_p0_size : Int32) (s_p0_lineCount : Int32) (s_p0_sets : Nat → Int64) (s_p0_through : Nat → Int64) (K_2 : (Int32) → Prop) (Q : Int32 → Prop) (K_24 : (Int32) → Prop) (x_4 : Int32) : Prop := ((s_p0_size ≤ x_4 → (K_2 (x_1 + (1 : Int32)))) ∧ (¬ s_p0_size ≤ x_4 → (vp_in x_4 45 ∧ (w_J13_bitCount_95d88 ((s_p0_through (x_4).toNatClampNeg) &&& x_2) (fun (r_42 : Int32) => (vp_in x_1 45 ∧ (w_X6_has (s_p0_sets (x_1).toNatClampNeg) x_4 (fun (r_55 : Int32) => ((¬ r_55 = 0 → (w_X0_firstMeeting_90 x_1 x_2 x_4 s_p0_size s_p0_lineCount s_p0_sets s_p0_through K_2 K_24 Q)) ∧ (r_55 = 0 → ((r_42 = (1 : Int32) → (w_X0_firstMeeting_90 x_1 x_2 x_4 s_p0_size s_p0_lineCount s_p0_sets s_p0_through K_2 K_24 Q)) ∧ (¬ r_42 = (1 : Int32) → ((¬ r_42 = 0 → (w_X0_firstMeeting_80 x_1 x_4 (10000 : Int32) (3 : Int32) s_p0_size s_p0_lineCount s_p0_sets s_p0_through Q)) ∧ (r_42 = 0 → (w_X0_firstMeeting_80 x_1 x_4 (10000 : Int32) (2 : Int32) s_p0_size s_p0_lineCount s_p0_sets s_p0_through Q)))))))))))))))
def w_X0_firstMeeting_24 (x_1 : Int32) (x_2 : Int64) (s_p0_size : Int32) (s_p0_lineCount : Int32) (s_p0_sets : Nat → Int64) (s_p0_through : Nat → Int64) (K_2 : (Int32) → Prop) (Q : Int32 → Prop) : Nat → (Int32) → Prop
  | 0 => fun _ => False
  | n_ + 1 => w_X0_firstMeeting_24s x_1 x_2 s_p0_size s_p0_lineCount s_p0_sets s_p0_through K_2 Q (w_X0_firstMeeting_24 x_1 x_2 s_p0_size s_p0_lineCount s_p0_sets s_p0_through K_2 Q n_)
def w_X0_firstMeeting_2s (s_p0_size : Int32) (s_p0_lineCount : Int32) (s_p0_sets : Nat → Int64) (s_p0_through : Nat → Int64) (Q : Int32 → Prop) (K_2 : (Int32) → Prop) (x_1 : Int32) : Prop := ((s_p0_lineCount ≤ x_1 → (Q (0 : Int32))) ∧ (¬ s_p0_lineCount ≤ x_1 → (vp_in x_1 45 ∧ (w_X5_linesMeeting (s_p0_sets (x_1).toNatClampNeg) s_p0_size s_p0_through (fun (r_17 : Int64) => (∃ n_, w_X0_firstMeeting_24 x_1 r_17 s_p0_size s_p0_lineCount s_p0_sets s_p0_through K_2 Q n_ (0 : Int32)))))))
def w_X0_firstMeeting_2 (s_p0_size : Int32) (s_p0_lineCount : Int32) (s_p0_sets : Nat → Int64) (s_p0_through : Nat → Int64) (Q : Int32 → Prop) : Nat → (Int32) → Prop
  | 0 => fun _ => False
  | n_ + 1 => w_X0_firstMeeting_2s s_p0_size s_p0_lineCount s_p0_sets s_p0_through Q (w_X0_firstMeeting_2 s_p0_size s_p0_lineCount s_p0_sets s_p0_through Q n_)
def w_X0_firstMeeting (s_p0_size : Int32) (s_p0_lineCount : Int32) (s_p0_sets : Nat → Int64) (s_p0_through : Nat → Int64) (Q : Int32 → Prop) : Prop := (∃ n_, w_X0_firstMeeting_2 s_p0_size s_p0_lineCount s_p0_sets s_p0_through Q n_ (0 : Int32))
-- X0_firstMeeting
theorem iX0_firstMeeting_X5 : ∀ w ∈ wsX50, w ∈ wsX0_firstMeeting := by decide +kernel
set_option maxHeartbeats 4000000 in
set_option maxRecDepth 100000 in
theorem k_X0_firstMeeting_90 {E : vE} {T : Nat → ClassId} {o_p0 : Nat} {a_p0 : Nat → Nat} {s_p0_there : Int32} {s_p0_kind : Int32} {s_p0_tag : Int32} {s_p0_size : Int32} {s_p0_lineCount : Int32} {s_p0_sets : Nat → Int64} {s_p0_through : Nat → Int64} {x_1 : Int32} {x_2 : Int64} {x_4 : Int32} {K_2 : (Int32) → Prop} {K_24 : (Int32) → Prop} {Q : Int32 → Prop} (X : vX E cX0_firstMeeting 6 RX0 wsX0_firstMeeting (vT T) (vr 2 47)) (r : r_X0_firstMeeting E T o_p0 a_p0 s_p0_there s_p0_kind s_p0_tag s_p0_size s_p0_lineCount s_p0_sets s_p0_through Q) (hK_2 : ∀ (x_1' : Int32), K_2 x_1' → V E 0 0 2 [(0, .ref o_p0), (1, .int x_1')] [] (cl_X0_firstMeeting T o_p0 a_p0 s_p0_there s_p0_kind s_p0_tag s_p0_size s_p0_lineCount s_p0_sets s_p0_through)) (hK_24 : ∀ (x_4' : Int32), K_24 x_4' → V E 0 0 24 [(0, .ref o_p0), (1, .int x_1), (2, .long x_2), (4, .int x_4')] [] (cl_X0_firstMeeting T o_p0 a_p0 s_p0_there s_p0_kind s_p0_tag s_p0_size s_p0_lineCount s_p0_sets s_p0_through)) (h : w_X0_firstMeeting_90 x_1 x_2 x_4 s_p0_size s_p0_lineCount s_p0_sets s_p0_through K_2 K_24 Q) : V E 0 0 90 [(0, .ref o_p0), (1, .int x_1), (2, .long x_2), (4, .int x_4)] [] (cl_X0_firstMeeting T o_p0 a_p0 s_p0_there s_p0_kind s_p0_tag s_p0_size s_p0_lineCount s_p0_sets s_p0_through) := by
  unfold w_X0_firstMeeting_90 at h
  refine v_iinc X (v := (x_4 + (1 : Int32))) (lv' := [(4, .int (x_4 + (1 : Int32))), (0, .ref o_p0), (1, .int x_1), (2, .long x_2)]) 3 dX0_firstMeeting_90 rfl rfl (by decide) rfl ?_
  refine v_goto X (tgt := 24) dX0_firstMeeting_93 (by decide) ?_
  refine v_lv (lv' := [(0, .ref o_p0), (1, .int x_1), (2, .long x_2), (4, .int (x_4 + (1 : Int32)))]) [1, 2, 3, 0] rfl ?_
  exact hK_24 _ h
set_option maxHeartbeats 4000000 in
set_option maxRecDepth 100000 in
theorem k_X0_firstMeeting_80 {E : vE} {T : Nat → ClassId} {o_p0 : Nat} {a_p0 : Nat → Nat} {s_p0_there : Int32} {s_p0_kind : Int32} {s_p0_tag : Int32} {s_p0_size : Int32} {s_p0_lineCount : Int32} {s_p0_sets : Nat → Int64} {s_p0_through : Nat → Int64} {x_1 : Int32} {x_4 : Int32} {t_0 : Int32} {t_1 : Int32} {Q : Int32 → Prop} (X : vX E cX0_firstMeeting 6 RX0 wsX0_firstMeeting (vT T) (vr 2 47)) (r : r_X0_firstMeeting E T o_p0 a_p0 s_p0_there s_p0_kind s_p0_tag s_p0_size s_p0_lineCount s_p0_sets s_p0_through Q) (h : w_X0_firstMeeting_80 x_1 x_4 t_0 t_1 s_p0_size s_p0_lineCount s_p0_sets s_p0_through Q) : V E 0 0 80 [(1, .int x_1), (4, .int x_4)] [.int t_1, .int t_0] (cl_X0_firstMeeting T o_p0 a_p0 s_p0_there s_p0_kind s_p0_tag s_p0_size s_p0_lineCount s_p0_sets s_p0_through) := by
  unfold w_X0_firstMeeting_80 at h
  refine v_imul X dX0_firstMeeting_80 ?_
  refine v_bipush X dX0_firstMeeting_81 (v := (100 : Int32)) (by decide) ?_
  refine v_iload_n X 0 dX0_firstMeeting_83 rfl rfl ?_
  refine v_imul X dX0_firstMeeting_84 ?_
  refine v_iadd X dX0_firstMeeting_85 ?_
  refine v_iload X 1 dX0_firstMeeting_86 rfl ?_
  refine v_iadd X dX0_firstMeeting_88 ?_
  exact r _ _ _ () _ dX0_firstMeeting_89 h rfl
set_option maxHeartbeats 4000000 in
set_option maxRecDepth 100000 in
theorem k_X0_firstMeeting_24 {E : vE} {T : Nat → ClassId} {o_p0 : Nat} {a_p0 : Nat → Nat} {s_p0_there : Int32} {s_p0_kind : Int32} {s_p0_tag : Int32} {s_p0_size : Int32} {s_p0_lineCount : Int32} {s_p0_sets : Nat → Int64} {s_p0_through : Nat → Int64} {x_1 : Int32} {x_2 : Int64} {K_2 : (Int32) → Prop} {Q : Int32 → Prop} (X : vX E cX0_firstMeeting 6 RX0 wsX0_firstMeeting (vT T) (vr 2 47)) (r : r_X0_firstMeeting E T o_p0 a_p0 s_p0_there s_p0_kind s_p0_tag s_p0_size s_p0_lineCount s_p0_sets s_p0_through Q) (hK_2 : ∀ (x_1' : Int32), K_2 x_1' → V E 0 0 2 [(0, .ref o_p0), (1, .int x_1')] [] (cl_X0_firstMeeting T o_p0 a_p0 s_p0_there s_p0_kind s_p0_tag s_p0_size s_p0_lineCount s_p0_sets s_p0_through)) : ∀ (n_ : Nat) (x_4 : Int32), w_X0_firstMeeting_24 x_1 x_2 s_p0_size s_p0_lineCount s_p0_sets s_p0_through K_2 Q n_ x_4 → V E 0 0 24 [(0, .ref o_p0), (1, .int x_1), (2, .long x_2), (4, .int x_4)] [] (cl_X0_firstMeeting T o_p0 a_p0 s_p0_there s_p0_kind s_p0_tag s_p0_size s_p0_lineCount s_p0_sets s_p0_through) := by
  intro n_
  induction n_ with
  | zero => intro x_4 h; exact h.elim
  | succ n_ hK_24 =>
    intro x_4 h
    replace h : w_X0_firstMeeting_24s x_1 x_2 s_p0_size s_p0_lineCount s_p0_sets s_p0_through K_2 Q (w_X0_firstMeeting_24 x_1 x_2 s_p0_size s_p0_lineCount s_p0_sets s_p0_through K_2 Q n_) x_4 := h
    unfold w_X0_firstMeeting_24s at h
    refine v_iload X 3 dX0_firstMeeting_24 rfl ?_
    refine v_aload_n X 0 dX0_firstMeeting_26 rfl rfl ?_
    refine v_getN X 0 6 (F := TX5) (N := 8) iX0_firstMeeting_X5 rfl rfl (by decide) (List.mem_of_getElem? (i := 30) rfl) rfl rfl dX0_firstMeeting_27 ?_
    refine v_icmp_ge X (tgt := 96) dX0_firstMeeting_30 (by decide) (fun c_30 => ?_) (fun c_30 => ?_)
    · replace h := h.1 c_30
      refine v_iinc X (v := (x_1 + (1 : Int32))) (lv' := [(1, .int (x_1 + (1 : Int32))), (0, .ref o_p0), (2, .long x_2), (4, .int x_4)]) 1 dX0_firstMeeting_96 rfl rfl (by decide) rfl ?_
      refine v_goto X (tgt := 2) dX0_firstMeeting_99 (by decide) ?_
      refine v_lv (lv' := [(0, .ref o_p0), (1, .int (x_1 + (1 : Int32)))]) [1, 0] rfl ?_
      exact hK_2 _ h
    · replace h := h.2 c_30
      refine v_aload_n X 0 dX0_firstMeeting_33 rfl rfl ?_
      refine v_getN X 0 1 (F := TX5) (N := 8) iX0_firstMeeting_X5 rfl rfl (by decide) (List.mem_of_getElem? (i := 17) rfl) rfl rfl dX0_firstMeeting_34 ?_
      refine v_iload X 3 dX0_firstMeeting_37 rfl ?_
      refine v_lald X 2 1 rfl rfl h.1 dX0_firstMeeting_39 ?_
      replace h := h.2
      refine v_lload_n X 2 dX0_firstMeeting_40 rfl rfl ?_
      refine v_land X dX0_firstMeeting_41 ?_
      refine v_callSi0 X (As := [.long ((s_p0_through (x_4).toNatClampNeg) &&& x_2)]) (rest := []) 1 (c_J13_bitCount_95d88 (l := vl E) (D := vD E) (T := T) (x_0 := ((s_p0_through (x_4).toNatClampNeg) &&& x_2)) h) gX0_firstMeeting_J13_bitCount_95d88 rfl rfl (by decide +kernel) ⟨Nat.zero_le _, Nat.zero_le _⟩ ⟨rfl, rfl, by decide, by decide⟩ (Nat.le_of_ble_eq_true rfl) rfl dX0_firstMeeting_42 (fun r_42 h => ?_)
      refine v_istore X (lv' := [(5, .int r_42), (0, .ref o_p0), (1, .int x_1), (2, .long x_2), (4, .int x_4)]) dX0_firstMeeting_45 (by decide) rfl ?_
      refine v_aload_n X 1 dX0_firstMeeting_47 rfl rfl ?_
      refine v_getN X 0 0 (F := TX5) (N := 8) iX0_firstMeeting_X5 rfl rfl (by decide) (List.mem_of_getElem? (i := 12) rfl) rfl rfl dX0_firstMeeting_48 ?_
      refine v_iload_n X 2 dX0_firstMeeting_51 rfl rfl ?_
      refine v_lald X 1 1 rfl rfl h.1 dX0_firstMeeting_52 ?_
      replace h := h.2
      refine v_iload X 4 dX0_firstMeeting_53 rfl ?_
      refine v_callNi0 X (As := [.long (s_p0_sets (x_1).toNatClampNeg), .int x_4]) (rest := []) 2 (c_X6_has (l := vl E) (D := vD E) (T := T) (x_0 := (s_p0_sets (x_1).toNatClampNeg)) (x_2 := x_4) h) gX0_firstMeeting_X6_has_n42 (List.mem_of_getElem? (i := 38) rfl) (List.mem_of_getElem? (i := 9) rfl) (List.mem_of_getElem? (i := 8) rfl) rfl rfl (by decide +kernel) ⟨Nat.zero_le _, Nat.zero_le _⟩ ⟨rfl, rfl, by decide, by decide⟩ (Nat.le_of_ble_eq_true rfl) rfl dX0_firstMeeting_55 (fun r_55 h => ?_)
      refine v_if_ne X (tgt := 90) dX0_firstMeeting_58 (by decide) (fun c_58 => ?_) (fun c_58 => ?_)
      · replace h := h.1 c_58
        refine v_lv (lv' := [(0, .ref o_p0), (1, .int x_1), (2, .long x_2), (4, .int x_4)]) [1, 2, 3, 4] rfl ?_
        exact k_X0_firstMeeting_90 X r hK_2 hK_24 h
      · replace h := h.2 c_58
        refine v_iload X 0 dX0_firstMeeting_61 rfl ?_
        refine v_iconst X dX0_firstMeeting_63 (v := (1 : Int32)) (by decide) ?_
        refine v_icmp_eq X (tgt := 90) dX0_firstMeeting_64 (by decide) (fun c_64 => ?_) (fun c_64 => ?_)
        · replace h := h.1 c_64
          refine v_lv (lv' := [(0, .ref o_p0), (1, .int x_1), (2, .long x_2), (4, .int x_4)]) [1, 2, 3, 4] rfl ?_
          exact k_X0_firstMeeting_90 X r hK_2 hK_24 h
        · replace h := h.2 c_64
          refine v_sipush X dX0_firstMeeting_67 (v := (10000 : Int32)) (by decide) ?_
          refine v_iload X 0 dX0_firstMeeting_70 rfl ?_
          refine v_if_ne X (tgt := 79) dX0_firstMeeting_72 (by decide) (fun c_72 => ?_) (fun c_72 => ?_)
          · replace h := h.1 c_72
            refine v_iconst X dX0_firstMeeting_79 (v := (3 : Int32)) (by decide) ?_
            refine v_lv (lv' := [(1, .int x_1), (4, .int x_4)]) [2, 4] rfl ?_
            exact k_X0_firstMeeting_80 X r h
          · replace h := h.2 c_72
            refine v_iconst X dX0_firstMeeting_75 (v := (2 : Int32)) (by decide) ?_
            refine v_goto X (tgt := 80) dX0_firstMeeting_76 (by decide) ?_
            refine v_lv (lv' := [(1, .int x_1), (4, .int x_4)]) [2, 4] rfl ?_
            exact k_X0_firstMeeting_80 X r h
set_option maxHeartbeats 4000000 in
set_option maxRecDepth 100000 in
theorem k_X0_firstMeeting_2 {E : vE} {T : Nat → ClassId} {o_p0 : Nat} {a_p0 : Nat → Nat} {s_p0_there : Int32} {s_p0_kind : Int32} {s_p0_tag : Int32} {s_p0_size : Int32} {s_p0_lineCount : Int32} {s_p0_sets : Nat → Int64} {s_p0_through : Nat → Int64} {Q : Int32 → Prop} (X : vX E cX0_firstMeeting 6 RX0 wsX0_firstMeeting (vT T) (vr 2 47)) (r : r_X0_firstMeeting E T o_p0 a_p0 s_p0_there s_p0_kind s_p0_tag s_p0_size s_p0_lineCount s_p0_sets s_p0_through Q) : ∀ (n_ : Nat) (x_1 : Int32), w_X0_firstMeeting_2 s_p0_size s_p0_lineCount s_p0_sets s_p0_through Q n_ x_1 → V E 0 0 2 [(0, .ref o_p0), (1, .int x_1)] [] (cl_X0_firstMeeting T o_p0 a_p0 s_p0_there s_p0_kind s_p0_tag s_p0_size s_p0_lineCount s_p0_sets s_p0_through) := by
  intro n_
  induction n_ with
  | zero => intro x_1 h; exact h.elim
  | succ n_ hK_2 =>
    intro x_1 h
    replace h : w_X0_firstMeeting_2s s_p0_size s_p0_lineCount s_p0_sets s_p0_through Q (w_X0_firstMeeting_2 s_p0_size s_p0_lineCount s_p0_sets s_p0_through Q n_) x_1 := h
    unfold w_X0_firstMeeting_2s at h
    refine v_iload_n X 1 dX0_firstMeeting_2 rfl rfl ?_
    refine v_aload_n X 0 dX0_firstMeeting_3 rfl rfl ?_
    refine v_getN X 0 7 (F := TX5) (N := 8) iX0_firstMeeting_X5 rfl rfl (by decide) (List.mem_of_getElem? (i := 34) rfl) rfl rfl dX0_firstMeeting_4 ?_
    refine v_icmp_ge X (tgt := 102) dX0_firstMeeting_7 (by decide) (fun c_7 => ?_) (fun c_7 => ?_)
    · replace h := h.1 c_7
      refine v_iconst X dX0_firstMeeting_102 (v := (0 : Int32)) (by decide) ?_
      exact r _ _ _ () _ dX0_firstMeeting_103 h rfl
    · replace h := h.2 c_7
      refine v_aload_n X 0 dX0_firstMeeting_10 rfl rfl ?_
      refine v_aload_n X 0 dX0_firstMeeting_11 rfl rfl ?_
      refine v_getN X 0 0 (F := TX5) (N := 8) iX0_firstMeeting_X5 rfl rfl (by decide) (List.mem_of_getElem? (i := 12) rfl) rfl rfl dX0_firstMeeting_12 ?_
      refine v_iload_n X 1 dX0_firstMeeting_15 rfl rfl ?_
      refine v_lald X 1 1 rfl rfl h.1 dX0_firstMeeting_16 ?_
      replace h := h.2
      refine v_callVl X (As := [.long (s_p0_sets (x_1).toNatClampNeg)]) (rest := []) 1 0 (c_X5_linesMeeting (l := vl E) (D := vD E) (T := T) (o_p0 := o_p0) (a_p0 := a_p0) (s_p0_there := s_p0_there) (s_p0_kind := s_p0_kind) (s_p0_tag := s_p0_tag) (s_p0_size := s_p0_size) (s_p0_lineCount := s_p0_lineCount) (s_p0_through := s_p0_through) (x_1 := (s_p0_sets (x_1).toNatClampNeg)) h) gX0_firstMeeting_X5_linesMeeting rfl rfl (by decide +kernel) ⟨Nat.zero_le _, Nat.zero_le _⟩ ⟨rfl, rfl, by decide, by decide⟩ (Nat.le_of_ble_eq_true rfl) rfl rfl (wr := [vJ T (a_p0 0) 45 s_p0_sets]) [0, 2] [1] rfl rfl rfl rfl (by decide) rfl dX0_firstMeeting_17 (fun r_17 u h => ?_)
      refine v_ws (ws' := (cl_X0_firstMeeting T o_p0 a_p0 s_p0_there s_p0_kind s_p0_tag s_p0_size s_p0_lineCount s_p0_sets s_p0_through)) [1, 0, 2] rfl rfl ?_
      refine v_lstore_n X (lv' := [(2, .long r_17), (0, .ref o_p0), (1, .int x_1)]) dX0_firstMeeting_20 rfl (by decide) rfl ?_
      refine v_iconst X dX0_firstMeeting_21 (v := (0 : Int32)) (by decide) ?_
      refine v_istore X (lv' := [(4, .int (0 : Int32)), (2, .long r_17), (0, .ref o_p0), (1, .int x_1)]) dX0_firstMeeting_22 (by decide) rfl ?_
      refine v_lv (lv' := [(0, .ref o_p0), (1, .int x_1), (2, .long r_17), (4, .int (0 : Int32))]) [2, 3, 1, 0] rfl ?_
      obtain ⟨n_, h⟩ := h
      exact k_X0_firstMeeting_24 X r hK_2 n_ _ h
set_option maxHeartbeats 4000000 in
set_option maxRecDepth 100000 in
theorem c_X0_firstMeeting {l : Launch} {D : va_G} {T : Nat → ClassId} {o_p0 : Nat} {a_p0 : Nat → Nat} {s_p0_there : Int32} {s_p0_kind : Int32} {s_p0_tag : Int32} {s_p0_size : Int32} {s_p0_lineCount : Int32} {s_p0_sets : Nat → Int64} {s_p0_through : Nat → Int64} {Q : Int32 → Prop} (h : w_X0_firstMeeting s_p0_size s_p0_lineCount s_p0_sets s_p0_through Q) : vCi l D (vT T) yX0_firstMeeting wsX0_firstMeeting (vr 2 47) [.ref o_p0] (cl_X0_firstMeeting T o_p0 a_p0 s_p0_there s_p0_kind s_p0_tag s_p0_size s_p0_lineCount s_p0_sets s_p0_through) (fun v (u : Unit) => Q v) (fun (u : Unit) => (cl_X0_firstMeeting T o_p0 a_p0 s_p0_there s_p0_kind s_p0_tag s_p0_size s_p0_lineCount s_p0_sets s_p0_through)) := by
  refine vC_i (cc := cX0_firstMeeting) (nL := 6) (by decide +kernel) rfl ⟨rfl, rfl⟩ (Nat.le_of_ble_eq_true rfl) rfl ?_
  intro E el eD X r
  unfold w_X0_firstMeeting at h
  refine v_iconst X dX0_firstMeeting_0 (v := (0 : Int32)) (by decide) ?_
  refine v_istore_n X (lv' := [(1, .int (0 : Int32)), (0, .ref o_p0)]) dX0_firstMeeting_1 rfl (by decide) rfl ?_
  refine v_lv (lv' := [(0, .ref o_p0), (1, .int (0 : Int32))]) [1, 0] rfl ?_
  obtain ⟨n_, h⟩ := h
  exact k_X0_firstMeeting_2 X r n_ _ h
-- X0_firstPair
abbrev cl_X0_firstPair (T : Nat → ClassId) (o_p0 : Nat) (a_p0 : Nat → Nat) (s_p0_there : Int32) (s_p0_kind : Int32) (s_p0_tag : Int32) (s_p0_size : Int32) (s_p0_lineCount : Int32) (s_p0_sets : Nat → Int64) : va_W := [vO o_p0 2 [.ref (a_p0 0), .ref (a_p0 1), .ref (a_p0 2), .int s_p0_there, .int s_p0_kind, .int s_p0_tag, .int s_p0_size, .int s_p0_lineCount], vJ T (a_p0 0) 45 s_p0_sets]
abbrev r_X0_firstPair (E : vE) (T : Nat → ClassId) (o_p0 : Nat) (a_p0 : Nat → Nat) (s_p0_there : Int32) (s_p0_kind : Int32) (s_p0_tag : Int32) (s_p0_size : Int32) (s_p0_lineCount : Int32) (s_p0_sets : Nat → Int64) (Q : Int32 → Prop) : Prop := vRi E cX0_firstPair (fun v (u : Unit) => Q v) (fun (u : Unit) => (cl_X0_firstPair T o_p0 a_p0 s_p0_there s_p0_kind s_p0_tag s_p0_size s_p0_lineCount s_p0_sets))
def w_X0_firstPair_14s (x_1 : Int32) (s_p0_lineCount : Int32) (s_p0_sets : Nat → Int64) (K_2 : (Int32) → Prop) (Q : Int32 → Prop) (K_14 : (Int32) → Prop) (x_2 : Int32) : Prop := ((s_p0_lineCount ≤ x_2 → (K_2 (x_1 + (1 : Int32)))) ∧ (¬ s_p0_lineCount ≤ x_2 → (vp_in x_1 45 ∧ (vp_in x_2 45 ∧ (w_J13_bitCount_95d88 ((s_p0_sets (x_1).toNatClampNeg) &&& (s_p0_sets (x_2).toNatClampNeg)) (fun (r_35 : Int32) => ((r_35 < (2 : Int32) → (K_14 (x_2 + (1 : Int32)))) ∧ (¬ r_35 < (2 : Int32) → (Q (((10000 : Int32) + ((100 : Int32) * x_1)) + x_2))))))))))
def w_X0_firstPair_14 (x_1 : Int32) (s_p0_lineCount : Int32) (s_p0_sets : Nat → Int64) (K_2 : (Int32) → Prop) (Q : Int32 → Prop) : Nat → (Int32) → Prop
  | 0 => fun _ => False
  | n_ + 1 => w_X0_firstPair_14s x_1 s_p0_lineCount s_p0_sets K_2 Q (w_X0_firstPair_14 x_1 s_p0_lineCount s_p0_sets K_2 Q n_)
def w_X0_firstPair_2s (s_p0_lineCount : Int32) (s_p0_sets : Nat → Int64) (Q : Int32 → Prop) (K_2 : (Int32) → Prop) (x_1 : Int32) : Prop := ((s_p0_lineCount ≤ x_1 → (Q (0 : Int32))) ∧ (¬ s_p0_lineCount ≤ x_1 → (∃ n_, w_X0_firstPair_14 x_1 s_p0_lineCount s_p0_sets K_2 Q n_ (x_1 + (1 : Int32)))))
def w_X0_firstPair_2 (s_p0_lineCount : Int32) (s_p0_sets : Nat → Int64) (Q : Int32 → Prop) : Nat → (Int32) → Prop
  | 0 => fun _ => False
  | n_ + 1 => w_X0_firstPair_2s s_p0_lineCount s_p0_sets Q (w_X0_firstPair_2 s_p0_lineCount s_p0_sets Q n_)
def w_X0_firstPair (s_p0_lineCount : Int32) (s_p0_sets : Nat → Int64) (Q : Int32 → Prop) : Prop := (∃ n_, w_X0_firstPair_2 s_p0_lineCount s_p0_sets Q n_ (0 : Int32))
-- X0_firstPair
theorem iX0_firstPair_X5 : ∀ w ∈ wsX50, w ∈ wsX0_firstPair := by decide +kernel
set_option maxHeartbeats 4000000 in
set_option maxRecDepth 100000 in
theorem k_X0_firstPair_14 {E : vE} {T : Nat → ClassId} {o_p0 : Nat} {a_p0 : Nat → Nat} {s_p0_there : Int32} {s_p0_kind : Int32} {s_p0_tag : Int32} {s_p0_size : Int32} {s_p0_lineCount : Int32} {s_p0_sets : Nat → Int64} {x_1 : Int32} {K_2 : (Int32) → Prop} {Q : Int32 → Prop} (X : vX E cX0_firstPair 3 RX0 wsX0_firstPair (vT T) (vr 1 21)) (r : r_X0_firstPair E T o_p0 a_p0 s_p0_there s_p0_kind s_p0_tag s_p0_size s_p0_lineCount s_p0_sets Q) (hK_2 : ∀ (x_1' : Int32), K_2 x_1' → V E 0 0 2 [(0, .ref o_p0), (1, .int x_1')] [] (cl_X0_firstPair T o_p0 a_p0 s_p0_there s_p0_kind s_p0_tag s_p0_size s_p0_lineCount s_p0_sets)) : ∀ (n_ : Nat) (x_2 : Int32), w_X0_firstPair_14 x_1 s_p0_lineCount s_p0_sets K_2 Q n_ x_2 → V E 0 0 14 [(0, .ref o_p0), (1, .int x_1), (2, .int x_2)] [] (cl_X0_firstPair T o_p0 a_p0 s_p0_there s_p0_kind s_p0_tag s_p0_size s_p0_lineCount s_p0_sets) := by
  intro n_
  induction n_ with
  | zero => intro x_2 h; exact h.elim
  | succ n_ hK_14 =>
    intro x_2 h
    replace h : w_X0_firstPair_14s x_1 s_p0_lineCount s_p0_sets K_2 Q (w_X0_firstPair_14 x_1 s_p0_lineCount s_p0_sets K_2 Q n_) x_2 := h
    unfold w_X0_firstPair_14s at h
    refine v_iload_n X 2 dX0_firstPair_14 rfl rfl ?_
    refine v_aload_n X 0 dX0_firstPair_15 rfl rfl ?_
    refine v_getN X 0 7 (F := TX5) (N := 8) iX0_firstPair_X5 rfl rfl (by decide) (List.mem_of_getElem? (i := 34) rfl) rfl rfl dX0_firstPair_16 ?_
    refine v_icmp_ge X (tgt := 59) dX0_firstPair_19 (by decide) (fun c_19 => ?_) (fun c_19 => ?_)
    · replace h := h.1 c_19
      refine v_iinc X (v := (x_1 + (1 : Int32))) (lv' := [(1, .int (x_1 + (1 : Int32))), (0, .ref o_p0), (2, .int x_2)]) 1 dX0_firstPair_59 rfl rfl (by decide) rfl ?_
      refine v_goto X (tgt := 2) dX0_firstPair_62 (by decide) ?_
      refine v_lv (lv' := [(0, .ref o_p0), (1, .int (x_1 + (1 : Int32)))]) [1, 0] rfl ?_
      exact hK_2 _ h
    · replace h := h.2 c_19
      refine v_aload_n X 0 dX0_firstPair_22 rfl rfl ?_
      refine v_getN X 0 0 (F := TX5) (N := 8) iX0_firstPair_X5 rfl rfl (by decide) (List.mem_of_getElem? (i := 12) rfl) rfl rfl dX0_firstPair_23 ?_
      refine v_iload_n X 1 dX0_firstPair_26 rfl rfl ?_
      refine v_lald X 1 1 rfl rfl h.1 dX0_firstPair_27 ?_
      replace h := h.2
      refine v_aload_n X 0 dX0_firstPair_28 rfl rfl ?_
      refine v_getN X 0 0 (F := TX5) (N := 8) iX0_firstPair_X5 rfl rfl (by decide) (List.mem_of_getElem? (i := 12) rfl) rfl rfl dX0_firstPair_29 ?_
      refine v_iload_n X 2 dX0_firstPair_32 rfl rfl ?_
      refine v_lald X 1 1 rfl rfl h.1 dX0_firstPair_33 ?_
      replace h := h.2
      refine v_land X dX0_firstPair_34 ?_
      refine v_callSi0 X (As := [.long ((s_p0_sets (x_1).toNatClampNeg) &&& (s_p0_sets (x_2).toNatClampNeg))]) (rest := []) 1 (c_J13_bitCount_95d88 (l := vl E) (D := vD E) (T := T) (x_0 := ((s_p0_sets (x_1).toNatClampNeg) &&& (s_p0_sets (x_2).toNatClampNeg))) h) gX0_firstPair_J13_bitCount_95d88 rfl rfl (by decide +kernel) ⟨Nat.zero_le _, Nat.zero_le _⟩ ⟨rfl, rfl, by decide, by decide⟩ (Nat.le_of_ble_eq_true rfl) rfl dX0_firstPair_35 (fun r_35 h => ?_)
      refine v_iconst X dX0_firstPair_38 (v := (2 : Int32)) (by decide) ?_
      refine v_icmp_lt X (tgt := 53) dX0_firstPair_39 (by decide) (fun c_39 => ?_) (fun c_39 => ?_)
      · replace h := h.1 c_39
        refine v_iinc X (v := (x_2 + (1 : Int32))) (lv' := [(2, .int (x_2 + (1 : Int32))), (0, .ref o_p0), (1, .int x_1)]) 2 dX0_firstPair_53 rfl rfl (by decide) rfl ?_
        refine v_goto X (tgt := 14) dX0_firstPair_56 (by decide) ?_
        refine v_lv (lv' := [(0, .ref o_p0), (1, .int x_1), (2, .int (x_2 + (1 : Int32)))]) [1, 2, 0] rfl ?_
        exact hK_14 _ h
      · replace h := h.2 c_39
        refine v_sipush X dX0_firstPair_42 (v := (10000 : Int32)) (by decide) ?_
        refine v_bipush X dX0_firstPair_45 (v := (100 : Int32)) (by decide) ?_
        refine v_iload_n X 1 dX0_firstPair_47 rfl rfl ?_
        refine v_imul X dX0_firstPair_48 ?_
        refine v_iadd X dX0_firstPair_49 ?_
        refine v_iload_n X 2 dX0_firstPair_50 rfl rfl ?_
        refine v_iadd X dX0_firstPair_51 ?_
        exact r _ _ _ () _ dX0_firstPair_52 h rfl
set_option maxHeartbeats 4000000 in
set_option maxRecDepth 100000 in
theorem k_X0_firstPair_2 {E : vE} {T : Nat → ClassId} {o_p0 : Nat} {a_p0 : Nat → Nat} {s_p0_there : Int32} {s_p0_kind : Int32} {s_p0_tag : Int32} {s_p0_size : Int32} {s_p0_lineCount : Int32} {s_p0_sets : Nat → Int64} {Q : Int32 → Prop} (X : vX E cX0_firstPair 3 RX0 wsX0_firstPair (vT T) (vr 1 21)) (r : r_X0_firstPair E T o_p0 a_p0 s_p0_there s_p0_kind s_p0_tag s_p0_size s_p0_lineCount s_p0_sets Q) : ∀ (n_ : Nat) (x_1 : Int32), w_X0_firstPair_2 s_p0_lineCount s_p0_sets Q n_ x_1 → V E 0 0 2 [(0, .ref o_p0), (1, .int x_1)] [] (cl_X0_firstPair T o_p0 a_p0 s_p0_there s_p0_kind s_p0_tag s_p0_size s_p0_lineCount s_p0_sets) := by
  intro n_
  induction n_ with
  | zero => intro x_1 h; exact h.elim
  | succ n_ hK_2 =>
    intro x_1 h
    replace h : w_X0_firstPair_2s s_p0_lineCount s_p0_sets Q (w_X0_firstPair_2 s_p0_lineCount s_p0_sets Q n_) x_1 := h
    unfold w_X0_firstPair_2s at h
    refine v_iload_n X 1 dX0_firstPair_2 rfl rfl ?_
    refine v_aload_n X 0 dX0_firstPair_3 rfl rfl ?_
    refine v_getN X 0 7 (F := TX5) (N := 8) iX0_firstPair_X5 rfl rfl (by decide) (List.mem_of_getElem? (i := 34) rfl) rfl rfl dX0_firstPair_4 ?_
    refine v_icmp_ge X (tgt := 65) dX0_firstPair_7 (by decide) (fun c_7 => ?_) (fun c_7 => ?_)
    · replace h := h.1 c_7
      refine v_iconst X dX0_firstPair_65 (v := (0 : Int32)) (by decide) ?_
      exact r _ _ _ () _ dX0_firstPair_66 h rfl
    · replace h := h.2 c_7
      refine v_iload_n X 1 dX0_firstPair_10 rfl rfl ?_
      refine v_iconst X dX0_firstPair_11 (v := (1 : Int32)) (by decide) ?_
      refine v_iadd X dX0_firstPair_12 ?_
      refine v_istore_n X (lv' := [(2, .int (x_1 + (1 : Int32))), (0, .ref o_p0), (1, .int x_1)]) dX0_firstPair_13 rfl (by decide) rfl ?_
      refine v_lv (lv' := [(0, .ref o_p0), (1, .int x_1), (2, .int (x_1 + (1 : Int32)))]) [1, 2, 0] rfl ?_
      obtain ⟨n_, h⟩ := h
      exact k_X0_firstPair_14 X r hK_2 n_ _ h
set_option maxHeartbeats 4000000 in
set_option maxRecDepth 100000 in
theorem c_X0_firstPair {l : Launch} {D : va_G} {T : Nat → ClassId} {o_p0 : Nat} {a_p0 : Nat → Nat} {s_p0_there : Int32} {s_p0_kind : Int32} {s_p0_tag : Int32} {s_p0_size : Int32} {s_p0_lineCount : Int32} {s_p0_sets : Nat → Int64} {Q : Int32 → Prop} (h : w_X0_firstPair s_p0_lineCount s_p0_sets Q) : vCi l D (vT T) yX0_firstPair wsX0_firstPair (vr 1 21) [.ref o_p0] (cl_X0_firstPair T o_p0 a_p0 s_p0_there s_p0_kind s_p0_tag s_p0_size s_p0_lineCount s_p0_sets) (fun v (u : Unit) => Q v) (fun (u : Unit) => (cl_X0_firstPair T o_p0 a_p0 s_p0_there s_p0_kind s_p0_tag s_p0_size s_p0_lineCount s_p0_sets)) := by
  refine vC_i (cc := cX0_firstPair) (nL := 3) (by decide +kernel) rfl ⟨rfl, rfl⟩ (Nat.le_of_ble_eq_true rfl) rfl ?_
  intro E el eD X r
  unfold w_X0_firstPair at h
  refine v_iconst X dX0_firstPair_0 (v := (0 : Int32)) (by decide) ?_
  refine v_istore_n X (lv' := [(1, .int (0 : Int32)), (0, .ref o_p0)]) dX0_firstPair_1 rfl (by decide) rfl ?_
  refine v_lv (lv' := [(0, .ref o_p0), (1, .int (0 : Int32))]) [1, 0] rfl ?_
  obtain ⟨n_, h⟩ := h
  exact k_X0_firstPair_2 X r n_ _ h
-- X0_firstOf
abbrev cl_X0_firstOf (T : Nat → ClassId) (o_p0 : Nat) (a_p0 : Nat → Nat) (s_p0_there : Int32) (s_p0_kind : Int32) (s_p0_tag : Int32) (s_p0_size : Int32) (s_p0_lineCount : Int32) (s_p0_sets : Nat → Int64) (s_p0_through : Nat → Int64) : va_W := [vO o_p0 2 [.ref (a_p0 0), .ref (a_p0 1), .ref (a_p0 2), .int s_p0_there, .int s_p0_kind, .int s_p0_tag, .int s_p0_size, .int s_p0_lineCount], vJ T (a_p0 0) 45 s_p0_sets, vJ T (a_p0 1) 45 s_p0_through]
abbrev r_X0_firstOf (E : vE) (T : Nat → ClassId) (o_p0 : Nat) (a_p0 : Nat → Nat) (s_p0_there : Int32) (s_p0_kind : Int32) (s_p0_tag : Int32) (s_p0_size : Int32) (s_p0_lineCount : Int32) (s_p0_sets : Nat → Int64) (s_p0_through : Nat → Int64) (Q : Int32 → Prop) : Prop := vRi E cX0_firstOf (fun v (u : Unit) => Q v) (fun (u : Unit) => (cl_X0_firstOf T o_p0 a_p0 s_p0_there s_p0_kind s_p0_tag s_p0_size s_p0_lineCount s_p0_sets s_p0_through))
def w_X0_firstOf_17 (t_0 : Int32) (s_p0_size : Int32) (s_p0_lineCount : Int32) (s_p0_sets : Nat → Int64) (s_p0_through : Nat → Int64) (Q : Int32 → Prop) : Prop := (Q t_0)
def w_X0_firstOf (s_p0_size : Int32) (s_p0_lineCount : Int32) (s_p0_sets : Nat → Int64) (s_p0_through : Nat → Int64) (Q : Int32 → Prop) : Prop := (w_X0_firstPair s_p0_lineCount s_p0_sets (fun (r_1 : Int32) => ((r_1 = 0 → (w_X0_firstMeeting s_p0_size s_p0_lineCount s_p0_sets s_p0_through (fun (r_14 : Int32) => (w_X0_firstOf_17 r_14 s_p0_size s_p0_lineCount s_p0_sets s_p0_through Q)))) ∧ (¬ r_1 = 0 → (w_X0_firstOf_17 r_1 s_p0_size s_p0_lineCount s_p0_sets s_p0_through Q)))))
-- X0_firstOf
set_option maxHeartbeats 4000000 in
set_option maxRecDepth 100000 in
theorem k_X0_firstOf_17 {E : vE} {T : Nat → ClassId} {o_p0 : Nat} {a_p0 : Nat → Nat} {s_p0_there : Int32} {s_p0_kind : Int32} {s_p0_tag : Int32} {s_p0_size : Int32} {s_p0_lineCount : Int32} {s_p0_sets : Nat → Int64} {s_p0_through : Nat → Int64} {t_0 : Int32} {Q : Int32 → Prop} (X : vX E cX0_firstOf 2 RX0 wsX0_firstOf (vT T) (vr 3 72)) (r : r_X0_firstOf E T o_p0 a_p0 s_p0_there s_p0_kind s_p0_tag s_p0_size s_p0_lineCount s_p0_sets s_p0_through Q) (h : w_X0_firstOf_17 t_0 s_p0_size s_p0_lineCount s_p0_sets s_p0_through Q) : V E 0 0 17 [] [.int t_0] (cl_X0_firstOf T o_p0 a_p0 s_p0_there s_p0_kind s_p0_tag s_p0_size s_p0_lineCount s_p0_sets s_p0_through) := by
  unfold w_X0_firstOf_17 at h
  exact r _ _ _ () _ dX0_firstOf_17 h rfl
set_option maxHeartbeats 4000000 in
set_option maxRecDepth 100000 in
theorem c_X0_firstOf {l : Launch} {D : va_G} {T : Nat → ClassId} {o_p0 : Nat} {a_p0 : Nat → Nat} {s_p0_there : Int32} {s_p0_kind : Int32} {s_p0_tag : Int32} {s_p0_size : Int32} {s_p0_lineCount : Int32} {s_p0_sets : Nat → Int64} {s_p0_through : Nat → Int64} {Q : Int32 → Prop} (h : w_X0_firstOf s_p0_size s_p0_lineCount s_p0_sets s_p0_through Q) : vCi l D (vT T) yX0_firstOf wsX0_firstOf (vr 3 72) [.ref o_p0] (cl_X0_firstOf T o_p0 a_p0 s_p0_there s_p0_kind s_p0_tag s_p0_size s_p0_lineCount s_p0_sets s_p0_through) (fun v (u : Unit) => Q v) (fun (u : Unit) => (cl_X0_firstOf T o_p0 a_p0 s_p0_there s_p0_kind s_p0_tag s_p0_size s_p0_lineCount s_p0_sets s_p0_through)) := by
  refine vC_i (cc := cX0_firstOf) (nL := 2) (by decide +kernel) rfl ⟨rfl, rfl⟩ (Nat.le_of_ble_eq_true rfl) rfl ?_
  intro E el eD X r
  unfold w_X0_firstOf at h
  refine v_aload_n X 0 dX0_firstOf_0 rfl rfl ?_
  refine v_callSi X (As := [.ref o_p0]) (rest := []) 1 (c_X0_firstPair (l := vl E) (D := vD E) (T := T) (o_p0 := o_p0) (a_p0 := a_p0) (s_p0_there := s_p0_there) (s_p0_kind := s_p0_kind) (s_p0_tag := s_p0_tag) (s_p0_size := s_p0_size) (s_p0_lineCount := s_p0_lineCount) (s_p0_sets := s_p0_sets) h) gX0_firstOf_X0_firstPair rfl rfl (by decide +kernel) ⟨Nat.zero_le _, Nat.zero_le _⟩ ⟨rfl, rfl, by decide, by decide⟩ (Nat.le_of_ble_eq_true rfl) (wr := [vJ T (a_p0 1) 45 s_p0_through]) [0, 1] [2] rfl rfl rfl rfl (by decide) rfl dX0_firstOf_1 (fun r_1 u h => ?_)
  refine v_ws (ws' := (cl_X0_firstOf T o_p0 a_p0 s_p0_there s_p0_kind s_p0_tag s_p0_size s_p0_lineCount s_p0_sets s_p0_through)) [1, 2, 0] rfl rfl ?_
  refine v_istore_n X (lv' := [(1, .int r_1), (0, .ref o_p0)]) dX0_firstOf_4 rfl (by decide) rfl ?_
  refine v_iload_n X 0 dX0_firstOf_5 rfl rfl ?_
  refine v_if_eq X (tgt := 13) dX0_firstOf_6 (by decide) (fun c_6 => ?_) (fun c_6 => ?_)
  · replace h := h.1 c_6
    refine v_aload_n X 1 dX0_firstOf_13 rfl rfl ?_
    refine v_callSi X (As := [.ref o_p0]) (rest := []) 1 (c_X0_firstMeeting (l := vl E) (D := vD E) (T := T) (o_p0 := o_p0) (a_p0 := a_p0) (s_p0_there := s_p0_there) (s_p0_kind := s_p0_kind) (s_p0_tag := s_p0_tag) (s_p0_size := s_p0_size) (s_p0_lineCount := s_p0_lineCount) (s_p0_sets := s_p0_sets) (s_p0_through := s_p0_through) h) gX0_firstOf_X0_firstMeeting rfl rfl (by decide +kernel) ⟨Nat.zero_le _, Nat.zero_le _⟩ ⟨rfl, rfl, by decide, by decide⟩ (Nat.le_of_ble_eq_true rfl) (wr := []) [0, 1, 2] [] rfl rfl rfl rfl (by decide) rfl dX0_firstOf_14 (fun r_14 u h => ?_)
    refine v_ws (ws' := (cl_X0_firstOf T o_p0 a_p0 s_p0_there s_p0_kind s_p0_tag s_p0_size s_p0_lineCount s_p0_sets s_p0_through)) [0, 1, 2] rfl rfl ?_
    refine v_lv (lv' := []) [] rfl ?_
    exact k_X0_firstOf_17 X r h
  · replace h := h.2 c_6
    refine v_iload_n X 0 dX0_firstOf_9 rfl rfl ?_
    refine v_goto X (tgt := 17) dX0_firstOf_10 (by decide) ?_
    refine v_lv (lv' := []) [] rfl ?_
    exact k_X0_firstOf_17 X r h
-- X0_sortOf
abbrev cl_X0_sortOf (T : Nat → ClassId) : va_W := []
abbrev r_X0_sortOf (E : vE) (T : Nat → ClassId) (Q : Int32 → Prop) : Prop := vRi E cX0_sortOf (fun v (u : Unit) => Q v) (fun (u : Unit) => (cl_X0_sortOf T))
def w_X0_sortOf (x_0 : Int32) (Q : Int32 → Prop) : Prop := (Q (x_0 / (10000 : Int32)))
-- X0_sortOf
set_option maxHeartbeats 4000000 in
set_option maxRecDepth 100000 in
theorem c_X0_sortOf {l : Launch} {D : va_G} {T : Nat → ClassId} {x_0 : Int32} {Q : Int32 → Prop} (h : w_X0_sortOf x_0 Q) : vCi l D (vT T) yX0_sortOf wsX0_sortOf (vr 0 0) [.int x_0] (cl_X0_sortOf T) (fun v (u : Unit) => Q v) (fun (u : Unit) => (cl_X0_sortOf T)) := by
  refine vC_i (cc := cX0_sortOf) (nL := 1) (by decide +kernel) rfl ⟨rfl, rfl⟩ (Nat.le_of_ble_eq_true rfl) rfl ?_
  intro E el eD X r
  unfold w_X0_sortOf at h
  refine v_iload_n X 0 dX0_sortOf_0 rfl rfl ?_
  refine v_sipush X dX0_sortOf_1 (v := (10000 : Int32)) (by decide) ?_
  refine v_idiv X dX0_sortOf_4 (by decide) ?_
  exact r _ _ _ () _ dX0_sortOf_5 h rfl
-- X0_placeIn
abbrev cl_X0_placeIn (T : Nat → ClassId) : va_W := []
abbrev r_X0_placeIn (E : vE) (T : Nat → ClassId) (Q : Int32 → Prop) : Prop := vRi E cX0_placeIn (fun v (u : Unit) => Q v) (fun (u : Unit) => (cl_X0_placeIn T))
def w_X0_placeIn (x_0 : Int32) (Q : Int32 → Prop) : Prop := (Q (vrem x_0 (10000 : Int32)))
-- X0_placeIn
set_option maxHeartbeats 4000000 in
set_option maxRecDepth 100000 in
theorem c_X0_placeIn {l : Launch} {D : va_G} {T : Nat → ClassId} {x_0 : Int32} {Q : Int32 → Prop} (h : w_X0_placeIn x_0 Q) : vCi l D (vT T) yX0_placeIn wsX0_placeIn (vr 0 0) [.int x_0] (cl_X0_placeIn T) (fun v (u : Unit) => Q v) (fun (u : Unit) => (cl_X0_placeIn T)) := by
  refine vC_i (cc := cX0_placeIn) (nL := 1) (by decide +kernel) rfl ⟨rfl, rfl⟩ (Nat.le_of_ble_eq_true rfl) rfl ?_
  intro E el eD X r
  unfold w_X0_placeIn at h
  refine v_iload_n X 0 dX0_placeIn_0 rfl rfl ?_
  refine v_sipush X dX0_placeIn_1 (v := (10000 : Int32)) (by decide) ?_
  refine v_irem X dX0_placeIn_4 (by decide) ?_
  exact r _ _ _ () _ dX0_placeIn_5 h rfl
-- X1_makeGrid
abbrev cl_X1_makeGrid (T : Nat → ClassId) (o_p0 : Nat) (a_p0 : Nat → Nat) (s_p0_there : Int32) (s_p0_kind : Int32) (s_p0_tag : Int32) (s_p0_size : Int32) (s_p0_lineCount : Int32) (s_p0_near : Nat → Int64) (s_p0_sets : Nat → Int64) (s_p0_through : Nat → Int64) : va_W := [vO o_p0 2 [.ref (a_p0 0), .ref (a_p0 1), .ref (a_p0 2), .int s_p0_there, .int s_p0_kind, .int s_p0_tag, .int s_p0_size, .int s_p0_lineCount], vJ T (a_p0 2) 45 s_p0_near, vJ T (a_p0 0) 45 s_p0_sets, vJ T (a_p0 1) 45 s_p0_through]
abbrev r_X1_makeGrid (E : vE) (T : Nat → ClassId) (o_p0 : Nat) (a_p0 : Nat → Nat) (Q : (Int32) → (Int32) → (Int32) → (Int32) → (Int32) → (Nat → Int64) → (Nat → Int64) → (Nat → Int64) → Prop) : Prop := vRv E cX1_makeGrid (fun (u : (Int32) × (Int32) × (Int32) × (Int32) × (Int32) × (Nat → Int64) × (Nat → Int64) × (Nat → Int64)) => Q u.1 u.2.1 u.2.2.1 u.2.2.2.1 u.2.2.2.2.1 u.2.2.2.2.2.1 u.2.2.2.2.2.2.1 u.2.2.2.2.2.2.2) (fun (u : (Int32) × (Int32) × (Int32) × (Int32) × (Int32) × (Nat → Int64) × (Nat → Int64) × (Nat → Int64)) => (cl_X1_makeGrid T o_p0 a_p0 u.1 u.2.1 u.2.2.1 u.2.2.2.1 u.2.2.2.2.1 u.2.2.2.2.2.1 u.2.2.2.2.2.2.1 u.2.2.2.2.2.2.2))
def w_X1_makeGrid_48s (x_1 : Int32) (x_2 : Int32) (x_3 : Int32) (s_p0_there : Int32) (s_p0_kind : Int32) (s_p0_tag : Int32) (s_p0_size : Int32) (s_p0_lineCount : Int32) (s_p0_near : Nat → Int64) (s_p0_sets : Nat → Int64) (s_p0_through : Nat → Int64) (K_37 : (Int32) → (Int32) → (Nat → Int64) → (Nat → Int64) → (Nat → Int64) → Prop) (Q : (Int32) → (Int32) → (Int32) → (Int32) → (Int32) → (Nat → Int64) → (Nat → Int64) → (Nat → Int64) → Prop) (K_48 : (Int64) → (Int32) → Prop) (x_4 : Int64) (x_6 : Int32) : Prop := ((x_1 ≤ x_6 → (w_X5_add x_4 s_p0_size s_p0_lineCount s_p0_near s_p0_sets s_p0_through (fun (r_76 : Int32) (u_76_0 : Int32) (u_76_1 : Nat → Int64) (u_76_2 : Nat → Int64) (u_76_3 : Nat → Int64) => (K_37 (x_3 + (1 : Int32)) u_76_0 u_76_1 u_76_2 u_76_3)))) ∧ (¬ x_1 ≤ x_6 → (K_48 (x_4 ||| (vshl (1 : Int64) ((x_2 * x_6) + x_3))) (x_6 + (1 : Int32)))))
def w_X1_makeGrid_48 (x_1 : Int32) (x_2 : Int32) (x_3 : Int32) (s_p0_there : Int32) (s_p0_kind : Int32) (s_p0_tag : Int32) (s_p0_size : Int32) (s_p0_lineCount : Int32) (s_p0_near : Nat → Int64) (s_p0_sets : Nat → Int64) (s_p0_through : Nat → Int64) (K_37 : (Int32) → (Int32) → (Nat → Int64) → (Nat → Int64) → (Nat → Int64) → Prop) (Q : (Int32) → (Int32) → (Int32) → (Int32) → (Int32) → (Nat → Int64) → (Nat → Int64) → (Nat → Int64) → Prop) : Nat → (Int64) → (Int32) → Prop
  | 0 => fun _ _ => False
  | n_ + 1 => w_X1_makeGrid_48s x_1 x_2 x_3 s_p0_there s_p0_kind s_p0_tag s_p0_size s_p0_lineCount s_p0_near s_p0_sets s_p0_through K_37 Q (w_X1_makeGrid_48 x_1 x_2 x_3 s_p0_there s_p0_kind s_p0_tag s_p0_size s_p0_lineCount s_p0_near s_p0_sets s_p0_through K_37 Q n_)
def w_X1_makeGrid_37s (x_1 : Int32) (x_2 : Int32) (s_p0_there : Int32) (s_p0_kind : Int32) (s_p0_tag : Int32) (s_p0_size : Int32) (Q : (Int32) → (Int32) → (Int32) → (Int32) → (Int32) → (Nat → Int64) → (Nat → Int64) → (Nat → Int64) → Prop) (K_37 : (Int32) → (Int32) → (Nat → Int64) → (Nat → Int64) → (Nat → Int64) → Prop) (x_3 : Int32) (s_p0_lineCount : Int32) (s_p0_near : Nat → Int64) (s_p0_sets : Nat → Int64) (s_p0_through : Nat → Int64) : Prop := ((x_2 ≤ x_3 → (Q s_p0_there s_p0_kind s_p0_tag s_p0_size s_p0_lineCount s_p0_near s_p0_sets s_p0_through)) ∧ (¬ x_2 ≤ x_3 → (∃ n_, w_X1_makeGrid_48 x_1 x_2 x_3 s_p0_there s_p0_kind s_p0_tag s_p0_size s_p0_lineCount s_p0_near s_p0_sets s_p0_through K_37 Q n_ (0 : Int64) (0 : Int32))))
def w_X1_makeGrid_37 (x_1 : Int32) (x_2 : Int32) (s_p0_there : Int32) (s_p0_kind : Int32) (s_p0_tag : Int32) (s_p0_size : Int32) (Q : (Int32) → (Int32) → (Int32) → (Int32) → (Int32) → (Nat → Int64) → (Nat → Int64) → (Nat → Int64) → Prop) : Nat → (Int32) → (Int32) → (Nat → Int64) → (Nat → Int64) → (Nat → Int64) → Prop
  | 0 => fun _ _ _ _ _ => False
  | n_ + 1 => w_X1_makeGrid_37s x_1 x_2 s_p0_there s_p0_kind s_p0_tag s_p0_size Q (w_X1_makeGrid_37 x_1 x_2 s_p0_there s_p0_kind s_p0_tag s_p0_size Q n_)
def w_X1_makeGrid_11s (x_1 : Int32) (x_2 : Int32) (s_p0_there : Int32) (s_p0_kind : Int32) (s_p0_tag : Int32) (s_p0_size : Int32) (Q : (Int32) → (Int32) → (Int32) → (Int32) → (Int32) → (Nat → Int64) → (Nat → Int64) → (Nat → Int64) → Prop) (K_11 : (Int32) → (Int32) → (Nat → Int64) → (Nat → Int64) → (Nat → Int64) → Prop) (x_3 : Int32) (s_p0_lineCount : Int32) (s_p0_near : Nat → Int64) (s_p0_sets : Nat → Int64) (s_p0_through : Nat → Int64) : Prop := ((x_1 ≤ x_3 → (∃ n_, w_X1_makeGrid_37 x_1 x_2 s_p0_there s_p0_kind s_p0_tag s_p0_size Q n_ (0 : Int32) s_p0_lineCount s_p0_near s_p0_sets s_p0_through)) ∧ (¬ x_1 ≤ x_3 → (w_X6_below x_2 (fun (r_18 : Int64) => (w_X5_add (vshl r_18 (x_2 * x_3)) s_p0_size s_p0_lineCount s_p0_near s_p0_sets s_p0_through (fun (r_25 : Int32) (u_25_0 : Int32) (u_25_1 : Nat → Int64) (u_25_2 : Nat → Int64) (u_25_3 : Nat → Int64) => (K_11 (x_3 + (1 : Int32)) u_25_0 u_25_1 u_25_2 u_25_3)))))))
def w_X1_makeGrid_11 (x_1 : Int32) (x_2 : Int32) (s_p0_there : Int32) (s_p0_kind : Int32) (s_p0_tag : Int32) (s_p0_size : Int32) (Q : (Int32) → (Int32) → (Int32) → (Int32) → (Int32) → (Nat → Int64) → (Nat → Int64) → (Nat → Int64) → Prop) : Nat → (Int32) → (Int32) → (Nat → Int64) → (Nat → Int64) → (Nat → Int64) → Prop
  | 0 => fun _ _ _ _ _ => False
  | n_ + 1 => w_X1_makeGrid_11s x_1 x_2 s_p0_there s_p0_kind s_p0_tag s_p0_size Q (w_X1_makeGrid_11 x_1 x_2 s_p0_there s_p0_kind s_p0_tag s_p0_size Q n_)
def w_X1_makeGrid (x_1 : Int32) (x_2 : Int32) (s_p0_there : Int32) (s_p0_kind : Int32) (s_p0_tag : Int32) (s_p0_size : Int32) (s_p0_lineCount : Int32) (s_p0_near : Nat → Int64) (s_p0_sets : Nat → Int64) (s_p0_through : Nat → Int64) (Q : (Int32) → (Int32) → (Int32) → (Int32) → (Int32) → (Nat → Int64) → (Nat → Int64) → (Nat → Int64) → Prop) : Prop := (w_X5_begin (1 : Int32) (x_1 * x_2) x_1 s_p0_there s_p0_kind s_p0_tag s_p0_size s_p0_lineCount s_p0_near s_p0_through (fun (u_6_0 : Int32) (u_6_1 : Int32) (u_6_2 : Int32) (u_6_3 : Int32) (u_6_4 : Int32) (u_6_5 : Nat → Int64) (u_6_6 : Nat → Int64) => (∃ n_, w_X1_makeGrid_11 x_1 x_2 u_6_0 u_6_1 u_6_2 u_6_3 Q n_ (0 : Int32) u_6_4 u_6_5 s_p0_sets u_6_6)))
-- X1_makeGrid
set_option maxHeartbeats 4000000 in
set_option maxRecDepth 100000 in
theorem k_X1_makeGrid_48 {E : vE} {T : Nat → ClassId} {o_p0 : Nat} {a_p0 : Nat → Nat} {s_p0_there : Int32} {s_p0_kind : Int32} {s_p0_tag : Int32} {s_p0_size : Int32} {s_p0_lineCount : Int32} {s_p0_near : Nat → Int64} {s_p0_sets : Nat → Int64} {s_p0_through : Nat → Int64} {x_1 : Int32} {x_2 : Int32} {x_3 : Int32} {K_37 : (Int32) → (Int32) → (Nat → Int64) → (Nat → Int64) → (Nat → Int64) → Prop} {Q : (Int32) → (Int32) → (Int32) → (Int32) → (Int32) → (Nat → Int64) → (Nat → Int64) → (Nat → Int64) → Prop} (X : vX E cX1_makeGrid 7 RX1 wsX1_makeGrid (vT T) (vr 2 45)) (r : r_X1_makeGrid E T o_p0 a_p0 Q) (hK_37 : ∀ (x_3' : Int32) (s_p0_lineCount' : Int32) (s_p0_near' : Nat → Int64) (s_p0_sets' : Nat → Int64) (s_p0_through' : Nat → Int64), K_37 x_3' s_p0_lineCount' s_p0_near' s_p0_sets' s_p0_through' → V E 0 0 37 [(0, .ref o_p0), (1, .int x_1), (2, .int x_2), (3, .int x_3')] [] (cl_X1_makeGrid T o_p0 a_p0 s_p0_there s_p0_kind s_p0_tag s_p0_size s_p0_lineCount' s_p0_near' s_p0_sets' s_p0_through')) : ∀ (n_ : Nat) (x_4 : Int64) (x_6 : Int32), w_X1_makeGrid_48 x_1 x_2 x_3 s_p0_there s_p0_kind s_p0_tag s_p0_size s_p0_lineCount s_p0_near s_p0_sets s_p0_through K_37 Q n_ x_4 x_6 → V E 0 0 48 [(0, .ref o_p0), (1, .int x_1), (2, .int x_2), (3, .int x_3), (4, .long x_4), (6, .int x_6)] [] (cl_X1_makeGrid T o_p0 a_p0 s_p0_there s_p0_kind s_p0_tag s_p0_size s_p0_lineCount s_p0_near s_p0_sets s_p0_through) := by
  intro n_
  induction n_ with
  | zero => intro x_4 x_6 h; exact h.elim
  | succ n_ hK_48 =>
    intro x_4 x_6 h
    replace h : w_X1_makeGrid_48s x_1 x_2 x_3 s_p0_there s_p0_kind s_p0_tag s_p0_size s_p0_lineCount s_p0_near s_p0_sets s_p0_through K_37 Q (w_X1_makeGrid_48 x_1 x_2 x_3 s_p0_there s_p0_kind s_p0_tag s_p0_size s_p0_lineCount s_p0_near s_p0_sets s_p0_through K_37 Q n_) x_4 x_6 := h
    unfold w_X1_makeGrid_48s at h
    refine v_iload X 5 dX1_makeGrid_48 rfl ?_
    refine v_iload_n X 1 dX1_makeGrid_50 rfl rfl ?_
    refine v_icmp_ge X (tgt := 73) dX1_makeGrid_51 (by decide) (fun c_51 => ?_) (fun c_51 => ?_)
    · replace h := h.1 c_51
      refine v_aload_n X 0 dX1_makeGrid_73 rfl rfl ?_
      refine v_lload X 4 dX1_makeGrid_74 rfl ?_
      refine v_callVi X (As := [.long x_4]) (rest := []) 1 0 (c_X5_add (l := vl E) (D := vD E) (T := T) (o_p0 := o_p0) (a_p0 := a_p0) (s_p0_there := s_p0_there) (s_p0_kind := s_p0_kind) (s_p0_tag := s_p0_tag) (s_p0_size := s_p0_size) (s_p0_lineCount := s_p0_lineCount) (s_p0_near := s_p0_near) (s_p0_sets := s_p0_sets) (s_p0_through := s_p0_through) (x_1 := x_4) h) gX1_makeGrid_X5_add rfl rfl (by decide +kernel) ⟨Nat.zero_le _, Nat.zero_le _⟩ ⟨rfl, rfl, by decide, by decide⟩ (Nat.le_of_ble_eq_true rfl) rfl rfl (wr := []) [0, 1, 2, 3] [] rfl rfl rfl rfl (by decide) rfl dX1_makeGrid_76 (fun r_76 u h => ?_)
      obtain ⟨u_76_0, u_76_1, u_76_2, u_76_3⟩ := u
      dsimp only at h
      refine v_ws (ws' := (cl_X1_makeGrid T o_p0 a_p0 s_p0_there s_p0_kind s_p0_tag s_p0_size u_76_0 u_76_1 u_76_2 u_76_3)) [0, 1, 2, 3] rfl rfl ?_
      refine v_pop X dX1_makeGrid_79 rfl ?_
      refine v_iinc X (v := (x_3 + (1 : Int32))) (lv' := [(3, .int (x_3 + (1 : Int32))), (0, .ref o_p0), (1, .int x_1), (2, .int x_2), (4, .long x_4), (6, .int x_6)]) 3 dX1_makeGrid_80 rfl rfl (by decide) rfl ?_
      refine v_goto X (tgt := 37) dX1_makeGrid_83 (by decide) ?_
      refine v_lv (lv' := [(0, .ref o_p0), (1, .int x_1), (2, .int x_2), (3, .int (x_3 + (1 : Int32)))]) [1, 2, 3, 0] rfl ?_
      exact hK_37 _ _ _ _ _ h
    · replace h := h.2 c_51
      refine v_lload X 4 dX1_makeGrid_54 rfl ?_
      refine v_lconst X dX1_makeGrid_56 (v := (1 : Int64)) (by decide) ?_
      refine v_iload_n X 2 dX1_makeGrid_57 rfl rfl ?_
      refine v_iload X 5 dX1_makeGrid_58 rfl ?_
      refine v_imul X dX1_makeGrid_60 ?_
      refine v_iload_n X 3 dX1_makeGrid_61 rfl rfl ?_
      refine v_iadd X dX1_makeGrid_62 ?_
      refine v_lshl X dX1_makeGrid_63 ?_
      refine v_lor X dX1_makeGrid_64 ?_
      refine v_lstore X (lv' := [(4, .long (x_4 ||| (vshl (1 : Int64) ((x_2 * x_6) + x_3)))), (0, .ref o_p0), (1, .int x_1), (2, .int x_2), (3, .int x_3), (6, .int x_6)]) dX1_makeGrid_65 (by decide) rfl ?_
      refine v_iinc X (v := (x_6 + (1 : Int32))) (lv' := [(6, .int (x_6 + (1 : Int32))), (4, .long (x_4 ||| (vshl (1 : Int64) ((x_2 * x_6) + x_3)))), (0, .ref o_p0), (1, .int x_1), (2, .int x_2), (3, .int x_3)]) 5 dX1_makeGrid_67 rfl rfl (by decide) rfl ?_
      refine v_goto X (tgt := 48) dX1_makeGrid_70 (by decide) ?_
      refine v_lv (lv' := [(0, .ref o_p0), (1, .int x_1), (2, .int x_2), (3, .int x_3), (4, .long (x_4 ||| (vshl (1 : Int64) ((x_2 * x_6) + x_3)))), (6, .int (x_6 + (1 : Int32)))]) [2, 3, 4, 5, 1, 0] rfl ?_
      exact hK_48 _ _ h
set_option maxHeartbeats 4000000 in
set_option maxRecDepth 100000 in
theorem k_X1_makeGrid_37 {E : vE} {T : Nat → ClassId} {o_p0 : Nat} {a_p0 : Nat → Nat} {s_p0_there : Int32} {s_p0_kind : Int32} {s_p0_tag : Int32} {s_p0_size : Int32} {x_1 : Int32} {x_2 : Int32} {Q : (Int32) → (Int32) → (Int32) → (Int32) → (Int32) → (Nat → Int64) → (Nat → Int64) → (Nat → Int64) → Prop} (X : vX E cX1_makeGrid 7 RX1 wsX1_makeGrid (vT T) (vr 2 45)) (r : r_X1_makeGrid E T o_p0 a_p0 Q) : ∀ (n_ : Nat) (x_3 : Int32) (s_p0_lineCount : Int32) (s_p0_near : Nat → Int64) (s_p0_sets : Nat → Int64) (s_p0_through : Nat → Int64), w_X1_makeGrid_37 x_1 x_2 s_p0_there s_p0_kind s_p0_tag s_p0_size Q n_ x_3 s_p0_lineCount s_p0_near s_p0_sets s_p0_through → V E 0 0 37 [(0, .ref o_p0), (1, .int x_1), (2, .int x_2), (3, .int x_3)] [] (cl_X1_makeGrid T o_p0 a_p0 s_p0_there s_p0_kind s_p0_tag s_p0_size s_p0_lineCount s_p0_near s_p0_sets s_p0_through) := by
  intro n_
  induction n_ with
  | zero => intro x_3 s_p0_lineCount s_p0_near s_p0_sets s_p0_through h; exact h.elim
  | succ n_ hK_37 =>
    intro x_3 s_p0_lineCount s_p0_near s_p0_sets s_p0_through h
    replace h : w_X1_makeGrid_37s x_1 x_2 s_p0_there s_p0_kind s_p0_tag s_p0_size Q (w_X1_makeGrid_37 x_1 x_2 s_p0_there s_p0_kind s_p0_tag s_p0_size Q n_) x_3 s_p0_lineCount s_p0_near s_p0_sets s_p0_through := h
    unfold w_X1_makeGrid_37s at h
    refine v_iload_n X 3 dX1_makeGrid_37 rfl rfl ?_
    refine v_iload_n X 2 dX1_makeGrid_38 rfl rfl ?_
    refine v_icmp_ge X (tgt := 86) dX1_makeGrid_39 (by decide) (fun c_39 => ?_) (fun c_39 => ?_)
    · replace h := h.1 c_39
      exact r _ _ (s_p0_there, s_p0_kind, s_p0_tag, s_p0_size, s_p0_lineCount, s_p0_near, s_p0_sets, s_p0_through) _ dX1_makeGrid_86 h rfl
    · replace h := h.2 c_39
      refine v_lconst X dX1_makeGrid_42 (v := (0 : Int64)) (by decide) ?_
      refine v_lstore X (lv' := [(4, .long (0 : Int64)), (0, .ref o_p0), (1, .int x_1), (2, .int x_2), (3, .int x_3)]) dX1_makeGrid_43 (by decide) rfl ?_
      refine v_iconst X dX1_makeGrid_45 (v := (0 : Int32)) (by decide) ?_
      refine v_istore X (lv' := [(6, .int (0 : Int32)), (4, .long (0 : Int64)), (0, .ref o_p0), (1, .int x_1), (2, .int x_2), (3, .int x_3)]) dX1_makeGrid_46 (by decide) rfl ?_
      refine v_lv (lv' := [(0, .ref o_p0), (1, .int x_1), (2, .int x_2), (3, .int x_3), (4, .long (0 : Int64)), (6, .int (0 : Int32))]) [2, 3, 4, 5, 1, 0] rfl ?_
      obtain ⟨n_, h⟩ := h
      exact k_X1_makeGrid_48 X r hK_37 n_ _ _ h
set_option maxHeartbeats 4000000 in
set_option maxRecDepth 100000 in
theorem k_X1_makeGrid_11 {E : vE} {T : Nat → ClassId} {o_p0 : Nat} {a_p0 : Nat → Nat} {s_p0_there : Int32} {s_p0_kind : Int32} {s_p0_tag : Int32} {s_p0_size : Int32} {x_1 : Int32} {x_2 : Int32} {Q : (Int32) → (Int32) → (Int32) → (Int32) → (Int32) → (Nat → Int64) → (Nat → Int64) → (Nat → Int64) → Prop} (X : vX E cX1_makeGrid 7 RX1 wsX1_makeGrid (vT T) (vr 2 45)) (r : r_X1_makeGrid E T o_p0 a_p0 Q) : ∀ (n_ : Nat) (x_3 : Int32) (s_p0_lineCount : Int32) (s_p0_near : Nat → Int64) (s_p0_sets : Nat → Int64) (s_p0_through : Nat → Int64), w_X1_makeGrid_11 x_1 x_2 s_p0_there s_p0_kind s_p0_tag s_p0_size Q n_ x_3 s_p0_lineCount s_p0_near s_p0_sets s_p0_through → V E 0 0 11 [(0, .ref o_p0), (1, .int x_1), (2, .int x_2), (3, .int x_3)] [] (cl_X1_makeGrid T o_p0 a_p0 s_p0_there s_p0_kind s_p0_tag s_p0_size s_p0_lineCount s_p0_near s_p0_sets s_p0_through) := by
  intro n_
  induction n_ with
  | zero => intro x_3 s_p0_lineCount s_p0_near s_p0_sets s_p0_through h; exact h.elim
  | succ n_ hK_11 =>
    intro x_3 s_p0_lineCount s_p0_near s_p0_sets s_p0_through h
    replace h : w_X1_makeGrid_11s x_1 x_2 s_p0_there s_p0_kind s_p0_tag s_p0_size Q (w_X1_makeGrid_11 x_1 x_2 s_p0_there s_p0_kind s_p0_tag s_p0_size Q n_) x_3 s_p0_lineCount s_p0_near s_p0_sets s_p0_through := h
    unfold w_X1_makeGrid_11s at h
    refine v_iload_n X 3 dX1_makeGrid_11 rfl rfl ?_
    refine v_iload_n X 1 dX1_makeGrid_12 rfl rfl ?_
    refine v_icmp_ge X (tgt := 35) dX1_makeGrid_13 (by decide) (fun c_13 => ?_) (fun c_13 => ?_)
    · replace h := h.1 c_13
      refine v_iconst X dX1_makeGrid_35 (v := (0 : Int32)) (by decide) ?_
      refine v_istore_n X (lv' := [(3, .int (0 : Int32)), (0, .ref o_p0), (1, .int x_1), (2, .int x_2)]) dX1_makeGrid_36 rfl (by decide) rfl ?_
      refine v_lv (lv' := [(0, .ref o_p0), (1, .int x_1), (2, .int x_2), (3, .int (0 : Int32))]) [1, 2, 3, 0] rfl ?_
      obtain ⟨n_, h⟩ := h
      exact k_X1_makeGrid_37 X r n_ _ _ _ _ _ h
    · replace h := h.2 c_13
      refine v_aload_n X 0 dX1_makeGrid_16 rfl rfl ?_
      refine v_iload_n X 2 dX1_makeGrid_17 rfl rfl ?_
      refine v_callNl0 X (As := [.int x_2]) (rest := [.ref o_p0]) 1 (c_X6_below (l := vl E) (D := vD E) (T := T) (x_0 := x_2) h) gX1_makeGrid_X6_below_n15 (List.mem_of_getElem? (i := 37) rfl) (List.mem_of_getElem? (i := 14) rfl) (List.mem_of_getElem? (i := 13) rfl) rfl rfl (by decide +kernel) ⟨Nat.zero_le _, Nat.zero_le _⟩ ⟨rfl, rfl, by decide, by decide⟩ (Nat.le_of_ble_eq_true rfl) rfl dX1_makeGrid_18 (fun r_18 h => ?_)
      refine v_iload_n X 2 dX1_makeGrid_21 rfl rfl ?_
      refine v_iload_n X 3 dX1_makeGrid_22 rfl rfl ?_
      refine v_imul X dX1_makeGrid_23 ?_
      refine v_lshl X dX1_makeGrid_24 ?_
      refine v_callVi X (As := [.long (vshl r_18 (x_2 * x_3))]) (rest := []) 1 0 (c_X5_add (l := vl E) (D := vD E) (T := T) (o_p0 := o_p0) (a_p0 := a_p0) (s_p0_there := s_p0_there) (s_p0_kind := s_p0_kind) (s_p0_tag := s_p0_tag) (s_p0_size := s_p0_size) (s_p0_lineCount := s_p0_lineCount) (s_p0_near := s_p0_near) (s_p0_sets := s_p0_sets) (s_p0_through := s_p0_through) (x_1 := (vshl r_18 (x_2 * x_3))) h) gX1_makeGrid_X5_add rfl rfl (by decide +kernel) ⟨Nat.zero_le _, Nat.zero_le _⟩ ⟨rfl, rfl, by decide, by decide⟩ (Nat.le_of_ble_eq_true rfl) rfl rfl (wr := []) [0, 1, 2, 3] [] rfl rfl rfl rfl (by decide) rfl dX1_makeGrid_25 (fun r_25 u h => ?_)
      obtain ⟨u_25_0, u_25_1, u_25_2, u_25_3⟩ := u
      dsimp only at h
      refine v_ws (ws' := (cl_X1_makeGrid T o_p0 a_p0 s_p0_there s_p0_kind s_p0_tag s_p0_size u_25_0 u_25_1 u_25_2 u_25_3)) [0, 1, 2, 3] rfl rfl ?_
      refine v_pop X dX1_makeGrid_28 rfl ?_
      refine v_iinc X (v := (x_3 + (1 : Int32))) (lv' := [(3, .int (x_3 + (1 : Int32))), (0, .ref o_p0), (1, .int x_1), (2, .int x_2)]) 3 dX1_makeGrid_29 rfl rfl (by decide) rfl ?_
      refine v_goto X (tgt := 11) dX1_makeGrid_32 (by decide) ?_
      refine v_lv (lv' := [(0, .ref o_p0), (1, .int x_1), (2, .int x_2), (3, .int (x_3 + (1 : Int32)))]) [1, 2, 3, 0] rfl ?_
      exact hK_11 _ _ _ _ _ h
set_option maxHeartbeats 4000000 in
set_option maxRecDepth 100000 in
theorem c_X1_makeGrid {l : Launch} {D : va_G} {T : Nat → ClassId} {o_p0 : Nat} {a_p0 : Nat → Nat} {s_p0_there : Int32} {s_p0_kind : Int32} {s_p0_tag : Int32} {s_p0_size : Int32} {s_p0_lineCount : Int32} {s_p0_near : Nat → Int64} {s_p0_sets : Nat → Int64} {s_p0_through : Nat → Int64} {x_1 : Int32} {x_2 : Int32} {Q : (Int32) → (Int32) → (Int32) → (Int32) → (Int32) → (Nat → Int64) → (Nat → Int64) → (Nat → Int64) → Prop} (h : w_X1_makeGrid x_1 x_2 s_p0_there s_p0_kind s_p0_tag s_p0_size s_p0_lineCount s_p0_near s_p0_sets s_p0_through Q) : vCv l D (vT T) yX1_makeGrid wsX1_makeGrid (vr 2 45) [.ref o_p0, .int x_1, .int x_2] (cl_X1_makeGrid T o_p0 a_p0 s_p0_there s_p0_kind s_p0_tag s_p0_size s_p0_lineCount s_p0_near s_p0_sets s_p0_through) (fun (u : (Int32) × (Int32) × (Int32) × (Int32) × (Int32) × (Nat → Int64) × (Nat → Int64) × (Nat → Int64)) => Q u.1 u.2.1 u.2.2.1 u.2.2.2.1 u.2.2.2.2.1 u.2.2.2.2.2.1 u.2.2.2.2.2.2.1 u.2.2.2.2.2.2.2) (fun (u : (Int32) × (Int32) × (Int32) × (Int32) × (Int32) × (Nat → Int64) × (Nat → Int64) × (Nat → Int64)) => (cl_X1_makeGrid T o_p0 a_p0 u.1 u.2.1 u.2.2.1 u.2.2.2.1 u.2.2.2.2.1 u.2.2.2.2.2.1 u.2.2.2.2.2.2.1 u.2.2.2.2.2.2.2)) := by
  refine vC_v (cc := cX1_makeGrid) (nL := 7) (by decide +kernel) rfl ⟨rfl, rfl⟩ (Nat.le_of_ble_eq_true rfl) rfl ?_
  intro E el eD X r
  unfold w_X1_makeGrid at h
  refine v_aload_n X 0 dX1_makeGrid_0 rfl rfl ?_
  refine v_iconst X dX1_makeGrid_1 (v := (1 : Int32)) (by decide) ?_
  refine v_iload_n X 1 dX1_makeGrid_2 rfl rfl ?_
  refine v_iload_n X 2 dX1_makeGrid_3 rfl rfl ?_
  refine v_imul X dX1_makeGrid_4 ?_
  refine v_iload_n X 1 dX1_makeGrid_5 rfl rfl ?_
  refine v_callVv X (As := [.int (1 : Int32), .int (x_1 * x_2), .int x_1]) (rest := []) 3 0 (c_X5_begin (l := vl E) (D := vD E) (T := T) (o_p0 := o_p0) (a_p0 := a_p0) (s_p0_there := s_p0_there) (s_p0_kind := s_p0_kind) (s_p0_tag := s_p0_tag) (s_p0_size := s_p0_size) (s_p0_lineCount := s_p0_lineCount) (s_p0_near := s_p0_near) (s_p0_through := s_p0_through) (x_1 := (1 : Int32)) (x_2 := (x_1 * x_2)) (x_3 := x_1) h) gX1_makeGrid_X5_begin rfl rfl (by decide +kernel) ⟨Nat.zero_le _, Nat.zero_le _⟩ ⟨rfl, rfl, by decide, by decide⟩ (Nat.le_of_ble_eq_true rfl) rfl rfl (wr := [vJ T (a_p0 0) 45 s_p0_sets]) [0, 1, 3] [2] rfl rfl rfl rfl (by decide) rfl dX1_makeGrid_6 (fun u h => ?_)
  obtain ⟨u_6_0, u_6_1, u_6_2, u_6_3, u_6_4, u_6_5, u_6_6⟩ := u
  dsimp only at h
  refine v_ws (ws' := (cl_X1_makeGrid T o_p0 a_p0 u_6_0 u_6_1 u_6_2 u_6_3 u_6_4 u_6_5 s_p0_sets u_6_6)) [1, 2, 0, 3] rfl rfl ?_
  refine v_iconst X dX1_makeGrid_9 (v := (0 : Int32)) (by decide) ?_
  refine v_istore_n X (lv' := [(3, .int (0 : Int32)), (0, .ref o_p0), (1, .int x_1), (2, .int x_2)]) dX1_makeGrid_10 rfl (by decide) rfl ?_
  refine v_lv (lv' := [(0, .ref o_p0), (1, .int x_1), (2, .int x_2), (3, .int (0 : Int32))]) [1, 2, 3, 0] rfl ?_
  obtain ⟨n_, h⟩ := h
  exact k_X1_makeGrid_11 X r n_ _ _ _ _ _ h
-- X1_isFormPoint
abbrev cl_X1_isFormPoint (T : Nat → ClassId) : va_W := []
abbrev r_X1_isFormPoint (E : vE) (T : Nat → ClassId) (Q : Int32 → Prop) : Prop := vRz E cX1_isFormPoint (fun v (u : Unit) => Q v) (fun (u : Unit) => (cl_X1_isFormPoint T))
def w_X1_isFormPoint_47 (t_0 : Int32) (Q : Int32 → Prop) : Prop := (vz t_0 ∧ Q t_0)
def w_X1_isFormPoint_26 (x_1 : Int32) (x_2 : Int32) (x_4 : Int32) (t_0 : Int32) (K_7 : (Int32) → (Int32) → (Int32) → Prop) (Q : Int32 → Prop) : Prop := (¬ x_1 = 0 ∧ (K_7 (x_2 / x_1) t_0 (x_4 + (1 : Int32))))
def w_X1_isFormPoint_7s (x_1 : Int32) (Q : Int32 → Prop) (K_7 : (Int32) → (Int32) → (Int32) → Prop) (x_2 : Int32) (x_3 : Int32) (x_4 : Int32) : Prop := (((4 : Int32) ≤ x_4 → ((¬ x_3 = (1 : Int32) → (w_X1_isFormPoint_47 (0 : Int32) Q)) ∧ (x_3 = (1 : Int32) → (w_X1_isFormPoint_47 (1 : Int32) Q)))) ∧ (¬ (4 : Int32) ≤ x_4 → (¬ x_1 = 0 ∧ (((vrem x_2 x_1) = 0 → (w_X1_isFormPoint_26 x_1 x_2 x_4 x_3 K_7 Q)) ∧ (¬ (vrem x_2 x_1) = 0 → (¬ x_1 = 0 ∧ (w_X1_isFormPoint_26 x_1 x_2 x_4 (vrem x_2 x_1) K_7 Q)))))))
def w_X1_isFormPoint_7 (x_1 : Int32) (Q : Int32 → Prop) : Nat → (Int32) → (Int32) → (Int32) → Prop
  | 0 => fun _ _ _ => False
  | n_ + 1 => w_X1_isFormPoint_7s x_1 Q (w_X1_isFormPoint_7 x_1 Q n_)
def w_X1_isFormPoint (x_0 : Int32) (x_1 : Int32) (Q : Int32 → Prop) : Prop := (∃ n_, w_X1_isFormPoint_7 x_1 Q n_ x_0 (0 : Int32) (0 : Int32))
-- X1_isFormPoint
set_option maxHeartbeats 4000000 in
set_option maxRecDepth 100000 in
theorem k_X1_isFormPoint_47 {E : vE} {T : Nat → ClassId} {t_0 : Int32} {Q : Int32 → Prop} (X : vX E cX1_isFormPoint 5 RX1 wsX1_isFormPoint (vT T) (vr 0 0)) (r : r_X1_isFormPoint E T Q) (h : w_X1_isFormPoint_47 t_0 Q) : V E 0 0 47 [] [.int t_0] (cl_X1_isFormPoint T) := by
  unfold w_X1_isFormPoint_47 at h
  exact r _ _ _ () _ dX1_isFormPoint_47 h.1 h.2 rfl
set_option maxHeartbeats 4000000 in
set_option maxRecDepth 100000 in
theorem k_X1_isFormPoint_26 {E : vE} {T : Nat → ClassId} {x_1 : Int32} {x_2 : Int32} {x_4 : Int32} {t_0 : Int32} {K_7 : (Int32) → (Int32) → (Int32) → Prop} {Q : Int32 → Prop} (X : vX E cX1_isFormPoint 5 RX1 wsX1_isFormPoint (vT T) (vr 0 0)) (r : r_X1_isFormPoint E T Q) (hK_7 : ∀ (x_2' : Int32) (x_3' : Int32) (x_4' : Int32), K_7 x_2' x_3' x_4' → V E 0 0 7 [(1, .int x_1), (2, .int x_2'), (3, .int x_3'), (4, .int x_4')] [] (cl_X1_isFormPoint T)) (h : w_X1_isFormPoint_26 x_1 x_2 x_4 t_0 K_7 Q) : V E 0 0 26 [(1, .int x_1), (2, .int x_2), (4, .int x_4)] [.int t_0] (cl_X1_isFormPoint T) := by
  unfold w_X1_isFormPoint_26 at h
  refine v_istore_n X (lv' := [(3, .int t_0), (1, .int x_1), (2, .int x_2), (4, .int x_4)]) dX1_isFormPoint_26 rfl (by decide) rfl ?_
  refine v_iload_n X 2 dX1_isFormPoint_27 rfl rfl ?_
  refine v_iload_n X 1 dX1_isFormPoint_28 rfl rfl ?_
  refine v_idiv X dX1_isFormPoint_29 h.1 ?_
  replace h := h.2
  refine v_istore_n X (lv' := [(2, .int (x_2 / x_1)), (3, .int t_0), (1, .int x_1), (4, .int x_4)]) dX1_isFormPoint_30 rfl (by decide) rfl ?_
  refine v_iinc X (v := (x_4 + (1 : Int32))) (lv' := [(4, .int (x_4 + (1 : Int32))), (2, .int (x_2 / x_1)), (3, .int t_0), (1, .int x_1)]) 3 dX1_isFormPoint_31 rfl rfl (by decide) rfl ?_
  refine v_goto X (tgt := 7) dX1_isFormPoint_34 (by decide) ?_
  refine v_lv (lv' := [(1, .int x_1), (2, .int (x_2 / x_1)), (3, .int t_0), (4, .int (x_4 + (1 : Int32)))]) [3, 1, 2, 0] rfl ?_
  exact hK_7 _ _ _ h
set_option maxHeartbeats 4000000 in
set_option maxRecDepth 100000 in
theorem k_X1_isFormPoint_7 {E : vE} {T : Nat → ClassId} {x_1 : Int32} {Q : Int32 → Prop} (X : vX E cX1_isFormPoint 5 RX1 wsX1_isFormPoint (vT T) (vr 0 0)) (r : r_X1_isFormPoint E T Q) : ∀ (n_ : Nat) (x_2 : Int32) (x_3 : Int32) (x_4 : Int32), w_X1_isFormPoint_7 x_1 Q n_ x_2 x_3 x_4 → V E 0 0 7 [(1, .int x_1), (2, .int x_2), (3, .int x_3), (4, .int x_4)] [] (cl_X1_isFormPoint T) := by
  intro n_
  induction n_ with
  | zero => intro x_2 x_3 x_4 h; exact h.elim
  | succ n_ hK_7 =>
    intro x_2 x_3 x_4 h
    replace h : w_X1_isFormPoint_7s x_1 Q (w_X1_isFormPoint_7 x_1 Q n_) x_2 x_3 x_4 := h
    unfold w_X1_isFormPoint_7s at h
    refine v_iload X 3 dX1_isFormPoint_7 rfl ?_
    refine v_iconst X dX1_isFormPoint_9 (v := (4 : Int32)) (by decide) ?_
    refine v_icmp_ge X (tgt := 37) dX1_isFormPoint_10 (by decide) (fun c_10 => ?_) (fun c_10 => ?_)
    · replace h := h.1 c_10
      refine v_iload_n X 2 dX1_isFormPoint_37 rfl rfl ?_
      refine v_iconst X dX1_isFormPoint_38 (v := (1 : Int32)) (by decide) ?_
      refine v_icmp_ne X (tgt := 46) dX1_isFormPoint_39 (by decide) (fun c_39 => ?_) (fun c_39 => ?_)
      · replace h := h.1 c_39
        refine v_iconst X dX1_isFormPoint_46 (v := (0 : Int32)) (by decide) ?_
        refine v_lv (lv' := []) [] rfl ?_
        exact k_X1_isFormPoint_47 X r h
      · replace h := h.2 c_39
        refine v_iconst X dX1_isFormPoint_42 (v := (1 : Int32)) (by decide) ?_
        refine v_goto X (tgt := 47) dX1_isFormPoint_43 (by decide) ?_
        refine v_lv (lv' := []) [] rfl ?_
        exact k_X1_isFormPoint_47 X r h
    · replace h := h.2 c_10
      refine v_iload_n X 1 dX1_isFormPoint_13 rfl rfl ?_
      refine v_iload_n X 0 dX1_isFormPoint_14 rfl rfl ?_
      refine v_irem X dX1_isFormPoint_15 h.1 ?_
      replace h := h.2
      refine v_if_eq X (tgt := 25) dX1_isFormPoint_16 (by decide) (fun c_16 => ?_) (fun c_16 => ?_)
      · replace h := h.1 c_16
        refine v_iload_n X 2 dX1_isFormPoint_25 rfl rfl ?_
        refine v_lv (lv' := [(1, .int x_1), (2, .int x_2), (4, .int x_4)]) [0, 1, 3] rfl ?_
        exact k_X1_isFormPoint_26 X r hK_7 h
      · replace h := h.2 c_16
        refine v_iload_n X 1 dX1_isFormPoint_19 rfl rfl ?_
        refine v_iload_n X 0 dX1_isFormPoint_20 rfl rfl ?_
        refine v_irem X dX1_isFormPoint_21 h.1 ?_
        replace h := h.2
        refine v_goto X (tgt := 26) dX1_isFormPoint_22 (by decide) ?_
        refine v_lv (lv' := [(1, .int x_1), (2, .int x_2), (4, .int x_4)]) [0, 1, 3] rfl ?_
        exact k_X1_isFormPoint_26 X r hK_7 h
set_option maxHeartbeats 4000000 in
set_option maxRecDepth 100000 in
theorem c_X1_isFormPoint {l : Launch} {D : va_G} {T : Nat → ClassId} {x_0 : Int32} {x_1 : Int32} {Q : Int32 → Prop} (h : w_X1_isFormPoint x_0 x_1 Q) : vCi l D (vT T) yX1_isFormPoint wsX1_isFormPoint (vr 0 0) [.int x_0, .int x_1] (cl_X1_isFormPoint T) (fun v (u : Unit) => Q v) (fun (u : Unit) => (cl_X1_isFormPoint T)) := by
  refine vC_z (cc := cX1_isFormPoint) (nL := 5) (by decide +kernel) rfl ⟨rfl, rfl⟩ (Nat.le_of_ble_eq_true rfl) rfl ?_
  intro E el eD X r
  unfold w_X1_isFormPoint at h
  refine v_iload_n X 0 dX1_isFormPoint_0 rfl rfl ?_
  refine v_istore_n X (lv' := [(2, .int x_0), (0, .int x_0), (1, .int x_1)]) dX1_isFormPoint_1 rfl (by decide) rfl ?_
  refine v_iconst X dX1_isFormPoint_2 (v := (0 : Int32)) (by decide) ?_
  refine v_istore_n X (lv' := [(3, .int (0 : Int32)), (2, .int x_0), (0, .int x_0), (1, .int x_1)]) dX1_isFormPoint_3 rfl (by decide) rfl ?_
  refine v_iconst X dX1_isFormPoint_4 (v := (0 : Int32)) (by decide) ?_
  refine v_istore X (lv' := [(4, .int (0 : Int32)), (3, .int (0 : Int32)), (2, .int x_0), (0, .int x_0), (1, .int x_1)]) dX1_isFormPoint_5 (by decide) rfl ?_
  refine v_lv (lv' := [(1, .int x_1), (2, .int x_0), (3, .int (0 : Int32)), (4, .int (0 : Int32))]) [4, 2, 1, 0] rfl ?_
  obtain ⟨n_, h⟩ := h
  exact k_X1_isFormPoint_7 X r n_ _ _ _ h
-- X1_isZeroForm
abbrev cl_X1_isZeroForm (T : Nat → ClassId) : va_W := []
abbrev r_X1_isZeroForm (E : vE) (T : Nat → ClassId) (Q : Int32 → Prop) : Prop := vRz E cX1_isZeroForm (fun v (u : Unit) => Q v) (fun (u : Unit) => (cl_X1_isZeroForm T))
def w_X1_isZeroForm_91 (t_0 : Int32) (Q : Int32 → Prop) : Prop := (vz t_0 ∧ Q t_0)
def w_X1_isZeroForm (x_0 : Int32) (x_1 : Int32) (x_2 : Int32) (Q : Int32 → Prop) : Prop := (¬ ((x_2 * x_2) * x_2) = 0 ∧ (¬ (x_2 * x_2) = 0 ∧ (¬ x_2 = 0 ∧ (¬ x_2 = 0 ∧ (¬ x_2 = 0 ∧ (¬ x_2 = 0 ∧ (¬ ((x_2 * x_2) * x_2) = 0 ∧ (¬ (x_2 * x_2) = 0 ∧ (¬ x_2 = 0 ∧ (¬ x_2 = 0 ∧ (¬ x_2 = 0 ∧ (¬ x_2 = 0 ∧ (¬ x_2 = 0 ∧ ((¬ (vrem (((((x_0 / ((x_2 * x_2) * x_2)) * (vrem (x_1 / (x_2 * x_2)) x_2)) - ((vrem (x_0 / (x_2 * x_2)) x_2) * (x_1 / ((x_2 * x_2) * x_2)))) + ((vrem (x_0 / x_2) x_2) * (vrem x_1 x_2))) - ((vrem x_0 x_2) * (vrem (x_1 / x_2) x_2))) x_2) = 0 → (w_X1_isZeroForm_91 (0 : Int32) Q)) ∧ ((vrem (((((x_0 / ((x_2 * x_2) * x_2)) * (vrem (x_1 / (x_2 * x_2)) x_2)) - ((vrem (x_0 / (x_2 * x_2)) x_2) * (x_1 / ((x_2 * x_2) * x_2)))) + ((vrem (x_0 / x_2) x_2) * (vrem x_1 x_2))) - ((vrem x_0 x_2) * (vrem (x_1 / x_2) x_2))) x_2) = 0 → (w_X1_isZeroForm_91 (1 : Int32) Q))))))))))))))))
-- X1_isZeroForm
set_option maxHeartbeats 4000000 in
set_option maxRecDepth 100000 in
theorem k_X1_isZeroForm_91 {E : vE} {T : Nat → ClassId} {t_0 : Int32} {Q : Int32 → Prop} (X : vX E cX1_isZeroForm 11 RX1 wsX1_isZeroForm (vT T) (vr 0 0)) (r : r_X1_isZeroForm E T Q) (h : w_X1_isZeroForm_91 t_0 Q) : V E 0 0 91 [] [.int t_0] (cl_X1_isZeroForm T) := by
  unfold w_X1_isZeroForm_91 at h
  exact r _ _ _ () _ dX1_isZeroForm_91 h.1 h.2 rfl
set_option maxHeartbeats 4000000 in
set_option maxRecDepth 100000 in
theorem c_X1_isZeroForm {l : Launch} {D : va_G} {T : Nat → ClassId} {x_0 : Int32} {x_1 : Int32} {x_2 : Int32} {Q : Int32 → Prop} (h : w_X1_isZeroForm x_0 x_1 x_2 Q) : vCi l D (vT T) yX1_isZeroForm wsX1_isZeroForm (vr 0 0) [.int x_0, .int x_1, .int x_2] (cl_X1_isZeroForm T) (fun v (u : Unit) => Q v) (fun (u : Unit) => (cl_X1_isZeroForm T)) := by
  refine vC_z (cc := cX1_isZeroForm) (nL := 11) (by decide +kernel) rfl ⟨rfl, rfl⟩ (Nat.le_of_ble_eq_true rfl) rfl ?_
  intro E el eD X r
  unfold w_X1_isZeroForm at h
  refine v_iload_n X 0 dX1_isZeroForm_0 rfl rfl ?_
  refine v_iload_n X 2 dX1_isZeroForm_1 rfl rfl ?_
  refine v_iload_n X 2 dX1_isZeroForm_2 rfl rfl ?_
  refine v_imul X dX1_isZeroForm_3 ?_
  refine v_iload_n X 2 dX1_isZeroForm_4 rfl rfl ?_
  refine v_imul X dX1_isZeroForm_5 ?_
  refine v_idiv X dX1_isZeroForm_6 h.1 ?_
  replace h := h.2
  refine v_istore_n X (lv' := [(3, .int (x_0 / ((x_2 * x_2) * x_2))), (0, .int x_0), (1, .int x_1), (2, .int x_2)]) dX1_isZeroForm_7 rfl (by decide) rfl ?_
  refine v_iload_n X 1 dX1_isZeroForm_8 rfl rfl ?_
  refine v_iload_n X 3 dX1_isZeroForm_9 rfl rfl ?_
  refine v_iload_n X 3 dX1_isZeroForm_10 rfl rfl ?_
  refine v_imul X dX1_isZeroForm_11 ?_
  refine v_idiv X dX1_isZeroForm_12 h.1 ?_
  replace h := h.2
  refine v_iload_n X 3 dX1_isZeroForm_13 rfl rfl ?_
  refine v_irem X dX1_isZeroForm_14 h.1 ?_
  replace h := h.2
  refine v_istore X (lv' := [(4, .int (vrem (x_0 / (x_2 * x_2)) x_2)), (3, .int (x_0 / ((x_2 * x_2) * x_2))), (0, .int x_0), (1, .int x_1), (2, .int x_2)]) dX1_isZeroForm_15 (by decide) rfl ?_
  refine v_iload_n X 2 dX1_isZeroForm_17 rfl rfl ?_
  refine v_iload_n X 4 dX1_isZeroForm_18 rfl rfl ?_
  refine v_idiv X dX1_isZeroForm_19 h.1 ?_
  replace h := h.2
  refine v_iload_n X 4 dX1_isZeroForm_20 rfl rfl ?_
  refine v_irem X dX1_isZeroForm_21 h.1 ?_
  replace h := h.2
  refine v_istore X (lv' := [(5, .int (vrem (x_0 / x_2) x_2)), (4, .int (vrem (x_0 / (x_2 * x_2)) x_2)), (3, .int (x_0 / ((x_2 * x_2) * x_2))), (0, .int x_0), (1, .int x_1), (2, .int x_2)]) dX1_isZeroForm_22 (by decide) rfl ?_
  refine v_iload_n X 3 dX1_isZeroForm_24 rfl rfl ?_
  refine v_iload_n X 5 dX1_isZeroForm_25 rfl rfl ?_
  refine v_irem X dX1_isZeroForm_26 h.1 ?_
  replace h := h.2
  refine v_istore X (lv' := [(6, .int (vrem x_0 x_2)), (5, .int (vrem (x_0 / x_2) x_2)), (4, .int (vrem (x_0 / (x_2 * x_2)) x_2)), (3, .int (x_0 / ((x_2 * x_2) * x_2))), (0, .int x_0), (1, .int x_1), (2, .int x_2)]) dX1_isZeroForm_27 (by decide) rfl ?_
  refine v_iload_n X 5 dX1_isZeroForm_29 rfl rfl ?_
  refine v_iload_n X 6 dX1_isZeroForm_30 rfl rfl ?_
  refine v_iload_n X 6 dX1_isZeroForm_31 rfl rfl ?_
  refine v_imul X dX1_isZeroForm_32 ?_
  refine v_iload_n X 6 dX1_isZeroForm_33 rfl rfl ?_
  refine v_imul X dX1_isZeroForm_34 ?_
  refine v_idiv X dX1_isZeroForm_35 h.1 ?_
  replace h := h.2
  refine v_istore X (lv' := [(7, .int (x_1 / ((x_2 * x_2) * x_2))), (6, .int (vrem x_0 x_2)), (5, .int (vrem (x_0 / x_2) x_2)), (4, .int (vrem (x_0 / (x_2 * x_2)) x_2)), (3, .int (x_0 / ((x_2 * x_2) * x_2))), (0, .int x_0), (1, .int x_1), (2, .int x_2)]) dX1_isZeroForm_36 (by decide) rfl ?_
  refine v_iload_n X 6 dX1_isZeroForm_38 rfl rfl ?_
  refine v_iload_n X 7 dX1_isZeroForm_39 rfl rfl ?_
  refine v_iload_n X 7 dX1_isZeroForm_40 rfl rfl ?_
  refine v_imul X dX1_isZeroForm_41 ?_
  refine v_idiv X dX1_isZeroForm_42 h.1 ?_
  replace h := h.2
  refine v_iload_n X 7 dX1_isZeroForm_43 rfl rfl ?_
  refine v_irem X dX1_isZeroForm_44 h.1 ?_
  replace h := h.2
  refine v_istore X (lv' := [(8, .int (vrem (x_1 / (x_2 * x_2)) x_2)), (7, .int (x_1 / ((x_2 * x_2) * x_2))), (6, .int (vrem x_0 x_2)), (5, .int (vrem (x_0 / x_2) x_2)), (4, .int (vrem (x_0 / (x_2 * x_2)) x_2)), (3, .int (x_0 / ((x_2 * x_2) * x_2))), (0, .int x_0), (1, .int x_1), (2, .int x_2)]) dX1_isZeroForm_45 (by decide) rfl ?_
  refine v_iload_n X 7 dX1_isZeroForm_47 rfl rfl ?_
  refine v_iload_n X 8 dX1_isZeroForm_48 rfl rfl ?_
  refine v_idiv X dX1_isZeroForm_49 h.1 ?_
  replace h := h.2
  refine v_iload_n X 8 dX1_isZeroForm_50 rfl rfl ?_
  refine v_irem X dX1_isZeroForm_51 h.1 ?_
  replace h := h.2
  refine v_istore X (lv' := [(9, .int (vrem (x_1 / x_2) x_2)), (8, .int (vrem (x_1 / (x_2 * x_2)) x_2)), (7, .int (x_1 / ((x_2 * x_2) * x_2))), (6, .int (vrem x_0 x_2)), (5, .int (vrem (x_0 / x_2) x_2)), (4, .int (vrem (x_0 / (x_2 * x_2)) x_2)), (3, .int (x_0 / ((x_2 * x_2) * x_2))), (0, .int x_0), (1, .int x_1), (2, .int x_2)]) dX1_isZeroForm_52 (by decide) rfl ?_
  refine v_iload_n X 8 dX1_isZeroForm_54 rfl rfl ?_
  refine v_iload_n X 9 dX1_isZeroForm_55 rfl rfl ?_
  refine v_irem X dX1_isZeroForm_56 h.1 ?_
  replace h := h.2
  refine v_istore X (lv' := [(10, .int (vrem x_1 x_2)), (9, .int (vrem (x_1 / x_2) x_2)), (8, .int (vrem (x_1 / (x_2 * x_2)) x_2)), (7, .int (x_1 / ((x_2 * x_2) * x_2))), (6, .int (vrem x_0 x_2)), (5, .int (vrem (x_0 / x_2) x_2)), (4, .int (vrem (x_0 / (x_2 * x_2)) x_2)), (3, .int (x_0 / ((x_2 * x_2) * x_2))), (0, .int x_0), (1, .int x_1), (2, .int x_2)]) dX1_isZeroForm_57 (by decide) rfl ?_
  refine v_iload_n X 7 dX1_isZeroForm_59 rfl rfl ?_
  refine v_iload X 2 dX1_isZeroForm_60 rfl ?_
  refine v_imul X dX1_isZeroForm_62 ?_
  refine v_iload X 6 dX1_isZeroForm_63 rfl ?_
  refine v_iload X 3 dX1_isZeroForm_65 rfl ?_
  refine v_imul X dX1_isZeroForm_67 ?_
  refine v_isub X dX1_isZeroForm_68 ?_
  refine v_iload X 5 dX1_isZeroForm_69 rfl ?_
  refine v_iload X 0 dX1_isZeroForm_71 rfl ?_
  refine v_imul X dX1_isZeroForm_73 ?_
  refine v_iadd X dX1_isZeroForm_74 ?_
  refine v_iload X 4 dX1_isZeroForm_75 rfl ?_
  refine v_iload X 1 dX1_isZeroForm_77 rfl ?_
  refine v_imul X dX1_isZeroForm_79 ?_
  refine v_isub X dX1_isZeroForm_80 ?_
  refine v_iload_n X 10 dX1_isZeroForm_81 rfl rfl ?_
  refine v_irem X dX1_isZeroForm_82 h.1 ?_
  replace h := h.2
  refine v_if_ne X (tgt := 90) dX1_isZeroForm_83 (by decide) (fun c_83 => ?_) (fun c_83 => ?_)
  · replace h := h.1 c_83
    refine v_iconst X dX1_isZeroForm_90 (v := (0 : Int32)) (by decide) ?_
    refine v_lv (lv' := []) [] rfl ?_
    exact k_X1_isZeroForm_91 X r h
  · replace h := h.2 c_83
    refine v_iconst X dX1_isZeroForm_86 (v := (1 : Int32)) (by decide) ?_
    refine v_goto X (tgt := 91) dX1_isZeroForm_87 (by decide) ?_
    refine v_lv (lv' := []) [] rfl ?_
    exact k_X1_isZeroForm_91 X r h
-- X1_nearByForm
abbrev cl_X1_nearByForm (T : Nat → ClassId) : va_W := []
abbrev r_X1_nearByForm (E : vE) (T : Nat → ClassId) (Q : Int64 → Prop) : Prop := vRl E cX1_nearByForm (fun v (u : Unit) => Q v) (fun (u : Unit) => (cl_X1_nearByForm T))
def w_X1_nearByForm_55 (x_0 : Int32) (x_1 : Int32) (x_2 : Int32) (x_3 : Int64) (x_5 : Int32) (x_6 : Int32) (K_16 : (Int64) → (Int32) → (Int32) → Prop) (Q : Int64 → Prop) : Prop := (K_16 x_3 x_5 (x_6 + (1 : Int32)))
def w_X1_nearByForm_50 (x_0 : Int32) (x_1 : Int32) (x_2 : Int32) (x_5 : Int32) (x_6 : Int32) (t_0 : Int64) (t_1 : Int64) (K_16 : (Int64) → (Int32) → (Int32) → Prop) (Q : Int64 → Prop) : Prop := (w_X1_nearByForm_55 x_0 x_1 x_2 (t_0 ||| t_1) (x_5 + (1 : Int32)) x_6 K_16 Q)
def w_X1_nearByForm_16s (x_0 : Int32) (x_1 : Int32) (x_2 : Int32) (Q : Int64 → Prop) (K_16 : (Int64) → (Int32) → (Int32) → Prop) (x_3 : Int64) (x_5 : Int32) (x_6 : Int32) : Prop := ((x_2 ≤ x_6 → (Q x_3)) ∧ (¬ x_2 ≤ x_6 → (w_X1_isFormPoint x_6 x_1 (fun (r_25 : Int32) => ((r_25 = 0 → (w_X1_nearByForm_55 x_0 x_1 x_2 x_3 x_5 x_6 K_16 Q)) ∧ (¬ r_25 = 0 → (w_X1_isZeroForm x_0 x_6 x_1 (fun (r_36 : Int32) => ((r_36 = 0 → (w_X1_nearByForm_50 x_0 x_1 x_2 x_5 x_6 x_3 (0 : Int64) K_16 Q)) ∧ (¬ r_36 = 0 → (w_X1_nearByForm_50 x_0 x_1 x_2 x_5 x_6 x_3 (vshl (1 : Int64) x_5) K_16 Q)))))))))))
def w_X1_nearByForm_16 (x_0 : Int32) (x_1 : Int32) (x_2 : Int32) (Q : Int64 → Prop) : Nat → (Int64) → (Int32) → (Int32) → Prop
  | 0 => fun _ _ _ => False
  | n_ + 1 => w_X1_nearByForm_16s x_0 x_1 x_2 Q (w_X1_nearByForm_16 x_0 x_1 x_2 Q n_)
def w_X1_nearByForm (x_0 : Int32) (x_1 : Int32) (Q : Int64 → Prop) : Prop := (∃ n_, w_X1_nearByForm_16 x_0 x_1 (((x_1 * x_1) * x_1) * x_1) Q n_ (0 : Int64) (0 : Int32) (1 : Int32))
-- X1_nearByForm
set_option maxHeartbeats 4000000 in
set_option maxRecDepth 100000 in
theorem k_X1_nearByForm_55 {E : vE} {T : Nat → ClassId} {x_0 : Int32} {x_1 : Int32} {x_2 : Int32} {x_3 : Int64} {x_5 : Int32} {x_6 : Int32} {K_16 : (Int64) → (Int32) → (Int32) → Prop} {Q : Int64 → Prop} (X : vX E cX1_nearByForm 7 RX1 wsX1_nearByForm (vT T) (vr 1 30)) (r : r_X1_nearByForm E T Q) (hK_16 : ∀ (x_3' : Int64) (x_5' : Int32) (x_6' : Int32), K_16 x_3' x_5' x_6' → V E 0 0 16 [(0, .int x_0), (1, .int x_1), (2, .int x_2), (3, .long x_3'), (5, .int x_5'), (6, .int x_6')] [] (cl_X1_nearByForm T)) (h : w_X1_nearByForm_55 x_0 x_1 x_2 x_3 x_5 x_6 K_16 Q) : V E 0 0 55 [(0, .int x_0), (1, .int x_1), (2, .int x_2), (3, .long x_3), (5, .int x_5), (6, .int x_6)] [] (cl_X1_nearByForm T) := by
  unfold w_X1_nearByForm_55 at h
  refine v_iinc X (v := (x_6 + (1 : Int32))) (lv' := [(6, .int (x_6 + (1 : Int32))), (0, .int x_0), (1, .int x_1), (2, .int x_2), (3, .long x_3), (5, .int x_5)]) 5 dX1_nearByForm_55 rfl rfl (by decide) rfl ?_
  refine v_goto X (tgt := 16) dX1_nearByForm_58 (by decide) ?_
  refine v_lv (lv' := [(0, .int x_0), (1, .int x_1), (2, .int x_2), (3, .long x_3), (5, .int x_5), (6, .int (x_6 + (1 : Int32)))]) [1, 2, 3, 4, 5, 0] rfl ?_
  exact hK_16 _ _ _ h
set_option maxHeartbeats 4000000 in
set_option maxRecDepth 100000 in
theorem k_X1_nearByForm_50 {E : vE} {T : Nat → ClassId} {x_0 : Int32} {x_1 : Int32} {x_2 : Int32} {x_5 : Int32} {x_6 : Int32} {t_0 : Int64} {t_1 : Int64} {K_16 : (Int64) → (Int32) → (Int32) → Prop} {Q : Int64 → Prop} (X : vX E cX1_nearByForm 7 RX1 wsX1_nearByForm (vT T) (vr 1 30)) (r : r_X1_nearByForm E T Q) (hK_16 : ∀ (x_3' : Int64) (x_5' : Int32) (x_6' : Int32), K_16 x_3' x_5' x_6' → V E 0 0 16 [(0, .int x_0), (1, .int x_1), (2, .int x_2), (3, .long x_3'), (5, .int x_5'), (6, .int x_6')] [] (cl_X1_nearByForm T)) (h : w_X1_nearByForm_50 x_0 x_1 x_2 x_5 x_6 t_0 t_1 K_16 Q) : V E 0 0 50 [(0, .int x_0), (1, .int x_1), (2, .int x_2), (5, .int x_5), (6, .int x_6)] [.long t_1, .long t_0] (cl_X1_nearByForm T) := by
  unfold w_X1_nearByForm_50 at h
  refine v_lor X dX1_nearByForm_50 ?_
  refine v_lstore_n X (lv' := [(3, .long (t_0 ||| t_1)), (0, .int x_0), (1, .int x_1), (2, .int x_2), (5, .int x_5), (6, .int x_6)]) dX1_nearByForm_51 rfl (by decide) rfl ?_
  refine v_iinc X (v := (x_5 + (1 : Int32))) (lv' := [(5, .int (x_5 + (1 : Int32))), (3, .long (t_0 ||| t_1)), (0, .int x_0), (1, .int x_1), (2, .int x_2), (6, .int x_6)]) 4 dX1_nearByForm_52 rfl rfl (by decide) rfl ?_
  refine v_lv (lv' := [(0, .int x_0), (1, .int x_1), (2, .int x_2), (3, .long (t_0 ||| t_1)), (5, .int (x_5 + (1 : Int32))), (6, .int x_6)]) [2, 3, 4, 1, 0, 5] rfl ?_
  exact k_X1_nearByForm_55 X r hK_16 h
set_option maxHeartbeats 4000000 in
set_option maxRecDepth 100000 in
theorem k_X1_nearByForm_16 {E : vE} {T : Nat → ClassId} {x_0 : Int32} {x_1 : Int32} {x_2 : Int32} {Q : Int64 → Prop} (X : vX E cX1_nearByForm 7 RX1 wsX1_nearByForm (vT T) (vr 1 30)) (r : r_X1_nearByForm E T Q) : ∀ (n_ : Nat) (x_3 : Int64) (x_5 : Int32) (x_6 : Int32), w_X1_nearByForm_16 x_0 x_1 x_2 Q n_ x_3 x_5 x_6 → V E 0 0 16 [(0, .int x_0), (1, .int x_1), (2, .int x_2), (3, .long x_3), (5, .int x_5), (6, .int x_6)] [] (cl_X1_nearByForm T) := by
  intro n_
  induction n_ with
  | zero => intro x_3 x_5 x_6 h; exact h.elim
  | succ n_ hK_16 =>
    intro x_3 x_5 x_6 h
    replace h : w_X1_nearByForm_16s x_0 x_1 x_2 Q (w_X1_nearByForm_16 x_0 x_1 x_2 Q n_) x_3 x_5 x_6 := h
    unfold w_X1_nearByForm_16s at h
    refine v_iload X 5 dX1_nearByForm_16 rfl ?_
    refine v_iload_n X 2 dX1_nearByForm_18 rfl rfl ?_
    refine v_icmp_ge X (tgt := 61) dX1_nearByForm_19 (by decide) (fun c_19 => ?_) (fun c_19 => ?_)
    · replace h := h.1 c_19
      refine v_lload_n X 3 dX1_nearByForm_61 rfl rfl ?_
      exact r _ _ _ () _ dX1_nearByForm_62 h rfl
    · replace h := h.2 c_19
      refine v_iload X 5 dX1_nearByForm_22 rfl ?_
      refine v_iload_n X 1 dX1_nearByForm_24 rfl rfl ?_
      refine v_callSi0 X (As := [.int x_6, .int x_1]) (rest := []) 2 (c_X1_isFormPoint (l := vl E) (D := vD E) (T := T) (x_0 := x_6) (x_1 := x_1) h) gX1_nearByForm_X1_isFormPoint rfl rfl (by decide +kernel) ⟨Nat.zero_le _, Nat.zero_le _⟩ ⟨rfl, rfl, by decide, by decide⟩ (Nat.le_of_ble_eq_true rfl) rfl dX1_nearByForm_25 (fun r_25 h => ?_)
      refine v_if_eq X (tgt := 55) dX1_nearByForm_28 (by decide) (fun c_28 => ?_) (fun c_28 => ?_)
      · replace h := h.1 c_28
        exact k_X1_nearByForm_55 X r hK_16 h
      · replace h := h.2 c_28
        refine v_lload_n X 3 dX1_nearByForm_31 rfl rfl ?_
        refine v_iload_n X 0 dX1_nearByForm_32 rfl rfl ?_
        refine v_iload X 5 dX1_nearByForm_33 rfl ?_
        refine v_iload_n X 1 dX1_nearByForm_35 rfl rfl ?_
        refine v_callSi0 X (As := [.int x_0, .int x_6, .int x_1]) (rest := [.long x_3]) 3 (c_X1_isZeroForm (l := vl E) (D := vD E) (T := T) (x_0 := x_0) (x_1 := x_6) (x_2 := x_1) h) gX1_nearByForm_X1_isZeroForm rfl rfl (by decide +kernel) ⟨Nat.zero_le _, Nat.zero_le _⟩ ⟨rfl, rfl, by decide, by decide⟩ (Nat.le_of_ble_eq_true rfl) rfl dX1_nearByForm_36 (fun r_36 h => ?_)
        refine v_if_eq X (tgt := 49) dX1_nearByForm_39 (by decide) (fun c_39 => ?_) (fun c_39 => ?_)
        · replace h := h.1 c_39
          refine v_lconst X dX1_nearByForm_49 (v := (0 : Int64)) (by decide) ?_
          refine v_lv (lv' := [(0, .int x_0), (1, .int x_1), (2, .int x_2), (5, .int x_5), (6, .int x_6)]) [0, 1, 2, 4, 5] rfl ?_
          exact k_X1_nearByForm_50 X r hK_16 h
        · replace h := h.2 c_39
          refine v_lconst X dX1_nearByForm_42 (v := (1 : Int64)) (by decide) ?_
          refine v_iload X 4 dX1_nearByForm_43 rfl ?_
          refine v_lshl X dX1_nearByForm_45 ?_
          refine v_goto X (tgt := 50) dX1_nearByForm_46 (by decide) ?_
          refine v_lv (lv' := [(0, .int x_0), (1, .int x_1), (2, .int x_2), (5, .int x_5), (6, .int x_6)]) [0, 1, 2, 4, 5] rfl ?_
          exact k_X1_nearByForm_50 X r hK_16 h
set_option maxHeartbeats 4000000 in
set_option maxRecDepth 100000 in
theorem c_X1_nearByForm {l : Launch} {D : va_G} {T : Nat → ClassId} {x_0 : Int32} {x_1 : Int32} {Q : Int64 → Prop} (h : w_X1_nearByForm x_0 x_1 Q) : vCl l D (vT T) yX1_nearByForm wsX1_nearByForm (vr 1 30) [.int x_0, .int x_1] (cl_X1_nearByForm T) (fun v (u : Unit) => Q v) (fun (u : Unit) => (cl_X1_nearByForm T)) := by
  refine vC_l (cc := cX1_nearByForm) (nL := 7) (by decide +kernel) rfl ⟨rfl, rfl⟩ (Nat.le_of_ble_eq_true rfl) rfl ?_
  intro E el eD X r
  unfold w_X1_nearByForm at h
  refine v_iload_n X 1 dX1_nearByForm_0 rfl rfl ?_
  refine v_iload_n X 1 dX1_nearByForm_1 rfl rfl ?_
  refine v_imul X dX1_nearByForm_2 ?_
  refine v_iload_n X 1 dX1_nearByForm_3 rfl rfl ?_
  refine v_imul X dX1_nearByForm_4 ?_
  refine v_iload_n X 1 dX1_nearByForm_5 rfl rfl ?_
  refine v_imul X dX1_nearByForm_6 ?_
  refine v_istore_n X (lv' := [(2, .int (((x_1 * x_1) * x_1) * x_1)), (0, .int x_0), (1, .int x_1)]) dX1_nearByForm_7 rfl (by decide) rfl ?_
  refine v_lconst X dX1_nearByForm_8 (v := (0 : Int64)) (by decide) ?_
  refine v_lstore_n X (lv' := [(3, .long (0 : Int64)), (2, .int (((x_1 * x_1) * x_1) * x_1)), (0, .int x_0), (1, .int x_1)]) dX1_nearByForm_9 rfl (by decide) rfl ?_
  refine v_iconst X dX1_nearByForm_10 (v := (0 : Int32)) (by decide) ?_
  refine v_istore X (lv' := [(5, .int (0 : Int32)), (3, .long (0 : Int64)), (2, .int (((x_1 * x_1) * x_1) * x_1)), (0, .int x_0), (1, .int x_1)]) dX1_nearByForm_11 (by decide) rfl ?_
  refine v_iconst X dX1_nearByForm_13 (v := (1 : Int32)) (by decide) ?_
  refine v_istore X (lv' := [(6, .int (1 : Int32)), (5, .int (0 : Int32)), (3, .long (0 : Int64)), (2, .int (((x_1 * x_1) * x_1) * x_1)), (0, .int x_0), (1, .int x_1)]) dX1_nearByForm_14 (by decide) rfl ?_
  refine v_lv (lv' := [(0, .int x_0), (1, .int x_1), (2, .int (((x_1 * x_1) * x_1) * x_1)), (3, .long (0 : Int64)), (5, .int (0 : Int32)), (6, .int (1 : Int32))]) [4, 5, 3, 2, 1, 0] rfl ?_
  obtain ⟨n_, h⟩ := h
  exact k_X1_nearByForm_16 X r n_ _ _ _ h
-- X1_makeForm
abbrev cl_X1_makeForm (T : Nat → ClassId) (o_p0 : Nat) (a_p0 : Nat → Nat) (s_p0_there : Int32) (s_p0_kind : Int32) (s_p0_tag : Int32) (s_p0_size : Int32) (s_p0_lineCount : Int32) (s_p0_near : Nat → Int64) (s_p0_sets : Nat → Int64) (s_p0_through : Nat → Int64) : va_W := [vO o_p0 2 [.ref (a_p0 0), .ref (a_p0 1), .ref (a_p0 2), .int s_p0_there, .int s_p0_kind, .int s_p0_tag, .int s_p0_size, .int s_p0_lineCount], vJ T (a_p0 2) 45 s_p0_near, vJ T (a_p0 0) 45 s_p0_sets, vJ T (a_p0 1) 45 s_p0_through]
abbrev r_X1_makeForm (E : vE) (T : Nat → ClassId) (o_p0 : Nat) (a_p0 : Nat → Nat) (Q : (Int32) → (Int32) → (Int32) → (Int32) → (Int32) → (Nat → Int64) → (Nat → Int64) → (Nat → Int64) → Prop) : Prop := vRv E cX1_makeForm (fun (u : (Int32) × (Int32) × (Int32) × (Int32) × (Int32) × (Nat → Int64) × (Nat → Int64) × (Nat → Int64)) => Q u.1 u.2.1 u.2.2.1 u.2.2.2.1 u.2.2.2.2.1 u.2.2.2.2.2.1 u.2.2.2.2.2.2.1 u.2.2.2.2.2.2.2) (fun (u : (Int32) × (Int32) × (Int32) × (Int32) × (Int32) × (Nat → Int64) × (Nat → Int64) × (Nat → Int64)) => (cl_X1_makeForm T o_p0 a_p0 u.1 u.2.1 u.2.2.1 u.2.2.2.1 u.2.2.2.2.1 u.2.2.2.2.2.1 u.2.2.2.2.2.2.1 u.2.2.2.2.2.2.2))
def w_X1_makeForm_148 (x_4 : Int32) (x_5 : Int32) (s_p0_there : Int32) (s_p0_kind : Int32) (s_p0_tag : Int32) (s_p0_size : Int32) (s_p0_lineCount : Int32) (s_p0_near : Nat → Int64) (s_p0_sets : Nat → Int64) (s_p0_through : Nat → Int64) (K_73 : (Int32) → (Int32) → (Nat → Int64) → (Nat → Int64) → (Nat → Int64) → Prop) (K_88 : (Int32) → (Int32) → (Nat → Int64) → (Nat → Int64) → (Nat → Int64) → Prop) (Q : (Int32) → (Int32) → (Int32) → (Int32) → (Int32) → (Nat → Int64) → (Nat → Int64) → (Nat → Int64) → Prop) : Prop := (K_88 (x_5 + (1 : Int32)) s_p0_lineCount s_p0_near s_p0_sets s_p0_through)
def w_X1_makeForm_88s (x_4 : Int32) (s_p0_there : Int32) (s_p0_kind : Int32) (s_p0_tag : Int32) (s_p0_size : Int32) (K_73 : (Int32) → (Int32) → (Nat → Int64) → (Nat → Int64) → (Nat → Int64) → Prop) (Q : (Int32) → (Int32) → (Int32) → (Int32) → (Int32) → (Nat → Int64) → (Nat → Int64) → (Nat → Int64) → Prop) (K_88 : (Int32) → (Int32) → (Nat → Int64) → (Nat → Int64) → (Nat → Int64) → Prop) (x_5 : Int32) (s_p0_lineCount : Int32) (s_p0_near : Nat → Int64) (s_p0_sets : Nat → Int64) (s_p0_through : Nat → Int64) : Prop := ((s_p0_size ≤ x_5 → (K_73 (x_4 + (1 : Int32)) s_p0_lineCount s_p0_near s_p0_sets s_p0_through)) ∧ (¬ s_p0_size ≤ x_5 → (vp_in x_4 45 ∧ (vp_in x_5 45 ∧ (w_X5_areNear x_4 x_5 s_p0_near (fun (r_119 : Int32) => ((r_119 = 0 → (w_X1_makeForm_148 x_4 x_5 s_p0_there s_p0_kind s_p0_tag s_p0_size s_p0_lineCount s_p0_near s_p0_sets s_p0_through K_73 K_88 Q)) ∧ (¬ r_119 = 0 → (w_X6_below x_5 (fun (r_129 : Int64) => ((¬ (lg_cmp (((s_p0_near (x_4).toNatClampNeg) &&& (s_p0_near (x_5).toNatClampNeg)) &&& r_129) (vshl (1 : Int64) x_4)) = 0 → (w_X1_makeForm_148 x_4 x_5 s_p0_there s_p0_kind s_p0_tag s_p0_size s_p0_lineCount s_p0_near s_p0_sets s_p0_through K_73 K_88 Q)) ∧ ((lg_cmp (((s_p0_near (x_4).toNatClampNeg) &&& (s_p0_near (x_5).toNatClampNeg)) &&& r_129) (vshl (1 : Int64) x_4)) = 0 → (w_X5_add ((s_p0_near (x_4).toNatClampNeg) &&& (s_p0_near (x_5).toNatClampNeg)) s_p0_size s_p0_lineCount s_p0_near s_p0_sets s_p0_through (fun (r_144 : Int32) (u_144_0 : Int32) (u_144_1 : Nat → Int64) (u_144_2 : Nat → Int64) (u_144_3 : Nat → Int64) => (w_X1_makeForm_148 x_4 x_5 s_p0_there s_p0_kind s_p0_tag s_p0_size u_144_0 u_144_1 u_144_2 u_144_3 K_73 K_88 Q)))))))))))))))
def w_X1_makeForm_88 (x_4 : Int32) (s_p0_there : Int32) (s_p0_kind : Int32) (s_p0_tag : Int32) (s_p0_size : Int32) (K_73 : (Int32) → (Int32) → (Nat → Int64) → (Nat → Int64) → (Nat → Int64) → Prop) (Q : (Int32) → (Int32) → (Int32) → (Int32) → (Int32) → (Nat → Int64) → (Nat → Int64) → (Nat → Int64) → Prop) : Nat → (Int32) → (Int32) → (Nat → Int64) → (Nat → Int64) → (Nat → Int64) → Prop
  | 0 => fun _ _ _ _ _ => False
  | n_ + 1 => w_X1_makeForm_88s x_4 s_p0_there s_p0_kind s_p0_tag s_p0_size K_73 Q (w_X1_makeForm_88 x_4 s_p0_there s_p0_kind s_p0_tag s_p0_size K_73 Q n_)
def w_X1_makeForm_73s (s_p0_there : Int32) (s_p0_kind : Int32) (s_p0_tag : Int32) (s_p0_size : Int32) (Q : (Int32) → (Int32) → (Int32) → (Int32) → (Int32) → (Nat → Int64) → (Nat → Int64) → (Nat → Int64) → Prop) (K_73 : (Int32) → (Int32) → (Nat → Int64) → (Nat → Int64) → (Nat → Int64) → Prop) (x_4 : Int32) (s_p0_lineCount : Int32) (s_p0_near : Nat → Int64) (s_p0_sets : Nat → Int64) (s_p0_through : Nat → Int64) : Prop := ((s_p0_size ≤ x_4 → (Q s_p0_there s_p0_kind s_p0_tag s_p0_size s_p0_lineCount s_p0_near s_p0_sets s_p0_through)) ∧ (¬ s_p0_size ≤ x_4 → (∃ n_, w_X1_makeForm_88 x_4 s_p0_there s_p0_kind s_p0_tag s_p0_size K_73 Q n_ (x_4 + (1 : Int32)) s_p0_lineCount s_p0_near s_p0_sets s_p0_through)))
def w_X1_makeForm_73 (s_p0_there : Int32) (s_p0_kind : Int32) (s_p0_tag : Int32) (s_p0_size : Int32) (Q : (Int32) → (Int32) → (Int32) → (Int32) → (Int32) → (Nat → Int64) → (Nat → Int64) → (Nat → Int64) → Prop) : Nat → (Int32) → (Int32) → (Nat → Int64) → (Nat → Int64) → (Nat → Int64) → Prop
  | 0 => fun _ _ _ _ _ => False
  | n_ + 1 => w_X1_makeForm_73s s_p0_there s_p0_kind s_p0_tag s_p0_size Q (w_X1_makeForm_73 s_p0_there s_p0_kind s_p0_tag s_p0_size Q n_)
def w_X1_makeForm_70 (s_p0_there : Int32) (s_p0_kind : Int32) (s_p0_tag : Int32) (s_p0_size : Int32) (s_p0_lineCount : Int32) (s_p0_near : Nat → Int64) (s_p0_sets : Nat → Int64) (s_p0_through : Nat → Int64) (Q : (Int32) → (Int32) → (Int32) → (Int32) → (Int32) → (Nat → Int64) → (Nat → Int64) → (Nat → Int64) → Prop) : Prop := (∃ n_, w_X1_makeForm_73 s_p0_there s_p0_kind s_p0_tag s_p0_size Q n_ (0 : Int32) s_p0_lineCount s_p0_near s_p0_sets s_p0_through)
def w_X1_makeForm_64 (x_1 : Int32) (x_2 : Int32) (x_3 : Int32) (x_4 : Int32) (s_p0_there : Int32) (s_p0_kind : Int32) (s_p0_tag : Int32) (s_p0_size : Int32) (s_p0_lineCount : Int32) (s_p0_near : Nat → Int64) (s_p0_sets : Nat → Int64) (s_p0_through : Nat → Int64) (K_26 : (Int32) → (Int32) → (Nat → Int64) → Prop) (Q : (Int32) → (Int32) → (Int32) → (Int32) → (Int32) → (Nat → Int64) → (Nat → Int64) → (Nat → Int64) → Prop) : Prop := (K_26 x_3 (x_4 + (1 : Int32)) s_p0_near)
def w_X1_makeForm_26s (x_1 : Int32) (x_2 : Int32) (s_p0_there : Int32) (s_p0_kind : Int32) (s_p0_tag : Int32) (s_p0_size : Int32) (s_p0_lineCount : Int32) (s_p0_sets : Nat → Int64) (s_p0_through : Nat → Int64) (Q : (Int32) → (Int32) → (Int32) → (Int32) → (Int32) → (Nat → Int64) → (Nat → Int64) → (Nat → Int64) → Prop) (K_26 : (Int32) → (Int32) → (Nat → Int64) → Prop) (x_3 : Int32) (x_4 : Int32) (s_p0_near : Nat → Int64) : Prop := ((x_2 ≤ x_4 → (w_X1_makeForm_70 s_p0_there s_p0_kind s_p0_tag s_p0_size s_p0_lineCount s_p0_near s_p0_sets s_p0_through Q)) ∧ (¬ x_2 ≤ x_4 → ((s_p0_size ≤ x_3 → (w_X1_makeForm_70 s_p0_there s_p0_kind s_p0_tag s_p0_size s_p0_lineCount s_p0_near s_p0_sets s_p0_through Q)) ∧ (¬ s_p0_size ≤ x_3 → (w_X1_isFormPoint x_4 x_1 (fun (r_43 : Int32) => ((r_43 = 0 → (w_X1_makeForm_64 x_1 x_2 x_3 x_4 s_p0_there s_p0_kind s_p0_tag s_p0_size s_p0_lineCount s_p0_near s_p0_sets s_p0_through K_26 Q)) ∧ (¬ r_43 = 0 → (w_X1_nearByForm x_4 x_1 (fun (r_57 : Int64) => (vp_in x_3 45 ∧ (w_X1_makeForm_64 x_1 x_2 (x_3 + (1 : Int32)) x_4 s_p0_there s_p0_kind s_p0_tag s_p0_size s_p0_lineCount (vp_updL s_p0_near (x_3).toNatClampNeg r_57) s_p0_sets s_p0_through K_26 Q))))))))))))
def w_X1_makeForm_26 (x_1 : Int32) (x_2 : Int32) (s_p0_there : Int32) (s_p0_kind : Int32) (s_p0_tag : Int32) (s_p0_size : Int32) (s_p0_lineCount : Int32) (s_p0_sets : Nat → Int64) (s_p0_through : Nat → Int64) (Q : (Int32) → (Int32) → (Int32) → (Int32) → (Int32) → (Nat → Int64) → (Nat → Int64) → (Nat → Int64) → Prop) : Nat → (Int32) → (Int32) → (Nat → Int64) → Prop
  | 0 => fun _ _ _ => False
  | n_ + 1 => w_X1_makeForm_26s x_1 x_2 s_p0_there s_p0_kind s_p0_tag s_p0_size s_p0_lineCount s_p0_sets s_p0_through Q (w_X1_makeForm_26 x_1 x_2 s_p0_there s_p0_kind s_p0_tag s_p0_size s_p0_lineCount s_p0_sets s_p0_through Q n_)
def w_X1_makeForm (x_1 : Int32) (s_p0_there : Int32) (s_p0_kind : Int32) (s_p0_tag : Int32) (s_p0_size : Int32) (s_p0_lineCount : Int32) (s_p0_near : Nat → Int64) (s_p0_sets : Nat → Int64) (s_p0_through : Nat → Int64) (Q : (Int32) → (Int32) → (Int32) → (Int32) → (Int32) → (Nat → Int64) → (Nat → Int64) → (Nat → Int64) → Prop) : Prop := (¬ (x_1 - (1 : Int32)) = 0 ∧ (w_X5_begin (2 : Int32) (((((x_1 * x_1) * x_1) * x_1) - (1 : Int32)) / (x_1 - (1 : Int32))) x_1 s_p0_there s_p0_kind s_p0_tag s_p0_size s_p0_lineCount s_p0_near s_p0_through (fun (u_18_0 : Int32) (u_18_1 : Int32) (u_18_2 : Int32) (u_18_3 : Int32) (u_18_4 : Int32) (u_18_5 : Nat → Int64) (u_18_6 : Nat → Int64) => (∃ n_, w_X1_makeForm_26 x_1 (((x_1 * x_1) * x_1) * x_1) u_18_0 u_18_1 u_18_2 u_18_3 u_18_4 s_p0_sets u_18_6 Q n_ (0 : Int32) (1 : Int32) u_18_5))))
-- X1_makeForm
theorem iX1_makeForm_X5 : ∀ w ∈ wsX50, w ∈ wsX1_makeForm := by decide +kernel
set_option maxHeartbeats 4000000 in
set_option maxRecDepth 100000 in
theorem k_X1_makeForm_148 {E : vE} {T : Nat → ClassId} {o_p0 : Nat} {a_p0 : Nat → Nat} {s_p0_there : Int32} {s_p0_kind : Int32} {s_p0_tag : Int32} {s_p0_size : Int32} {s_p0_lineCount : Int32} {s_p0_near : Nat → Int64} {s_p0_sets : Nat → Int64} {s_p0_through : Nat → Int64} {x_4 : Int32} {x_5 : Int32} {K_73 : (Int32) → (Int32) → (Nat → Int64) → (Nat → Int64) → (Nat → Int64) → Prop} {K_88 : (Int32) → (Int32) → (Nat → Int64) → (Nat → Int64) → (Nat → Int64) → Prop} {Q : (Int32) → (Int32) → (Int32) → (Int32) → (Int32) → (Nat → Int64) → (Nat → Int64) → (Nat → Int64) → Prop} (X : vX E cX1_makeForm 8 RX1 wsX1_makeForm (vT T) (vr 2 56)) (r : r_X1_makeForm E T o_p0 a_p0 Q) (hK_73 : ∀ (x_4' : Int32) (s_p0_lineCount' : Int32) (s_p0_near' : Nat → Int64) (s_p0_sets' : Nat → Int64) (s_p0_through' : Nat → Int64), K_73 x_4' s_p0_lineCount' s_p0_near' s_p0_sets' s_p0_through' → V E 0 0 73 [(0, .ref o_p0), (4, .int x_4')] [] (cl_X1_makeForm T o_p0 a_p0 s_p0_there s_p0_kind s_p0_tag s_p0_size s_p0_lineCount' s_p0_near' s_p0_sets' s_p0_through')) (hK_88 : ∀ (x_5' : Int32) (s_p0_lineCount' : Int32) (s_p0_near' : Nat → Int64) (s_p0_sets' : Nat → Int64) (s_p0_through' : Nat → Int64), K_88 x_5' s_p0_lineCount' s_p0_near' s_p0_sets' s_p0_through' → V E 0 0 88 [(0, .ref o_p0), (4, .int x_4), (5, .int x_5')] [] (cl_X1_makeForm T o_p0 a_p0 s_p0_there s_p0_kind s_p0_tag s_p0_size s_p0_lineCount' s_p0_near' s_p0_sets' s_p0_through')) (h : w_X1_makeForm_148 x_4 x_5 s_p0_there s_p0_kind s_p0_tag s_p0_size s_p0_lineCount s_p0_near s_p0_sets s_p0_through K_73 K_88 Q) : V E 0 0 148 [(0, .ref o_p0), (4, .int x_4), (5, .int x_5)] [] (cl_X1_makeForm T o_p0 a_p0 s_p0_there s_p0_kind s_p0_tag s_p0_size s_p0_lineCount s_p0_near s_p0_sets s_p0_through) := by
  unfold w_X1_makeForm_148 at h
  refine v_iinc X (v := (x_5 + (1 : Int32))) (lv' := [(5, .int (x_5 + (1 : Int32))), (0, .ref o_p0), (4, .int x_4)]) 2 dX1_makeForm_148 rfl rfl (by decide) rfl ?_
  refine v_goto X (tgt := 88) dX1_makeForm_151 (by decide) ?_
  refine v_lv (lv' := [(0, .ref o_p0), (4, .int x_4), (5, .int (x_5 + (1 : Int32)))]) [1, 2, 0] rfl ?_
  exact hK_88 _ _ _ _ _ h
set_option maxHeartbeats 4000000 in
set_option maxRecDepth 100000 in
theorem k_X1_makeForm_88 {E : vE} {T : Nat → ClassId} {o_p0 : Nat} {a_p0 : Nat → Nat} {s_p0_there : Int32} {s_p0_kind : Int32} {s_p0_tag : Int32} {s_p0_size : Int32} {x_4 : Int32} {K_73 : (Int32) → (Int32) → (Nat → Int64) → (Nat → Int64) → (Nat → Int64) → Prop} {Q : (Int32) → (Int32) → (Int32) → (Int32) → (Int32) → (Nat → Int64) → (Nat → Int64) → (Nat → Int64) → Prop} (X : vX E cX1_makeForm 8 RX1 wsX1_makeForm (vT T) (vr 2 56)) (r : r_X1_makeForm E T o_p0 a_p0 Q) (hK_73 : ∀ (x_4' : Int32) (s_p0_lineCount' : Int32) (s_p0_near' : Nat → Int64) (s_p0_sets' : Nat → Int64) (s_p0_through' : Nat → Int64), K_73 x_4' s_p0_lineCount' s_p0_near' s_p0_sets' s_p0_through' → V E 0 0 73 [(0, .ref o_p0), (4, .int x_4')] [] (cl_X1_makeForm T o_p0 a_p0 s_p0_there s_p0_kind s_p0_tag s_p0_size s_p0_lineCount' s_p0_near' s_p0_sets' s_p0_through')) : ∀ (n_ : Nat) (x_5 : Int32) (s_p0_lineCount : Int32) (s_p0_near : Nat → Int64) (s_p0_sets : Nat → Int64) (s_p0_through : Nat → Int64), w_X1_makeForm_88 x_4 s_p0_there s_p0_kind s_p0_tag s_p0_size K_73 Q n_ x_5 s_p0_lineCount s_p0_near s_p0_sets s_p0_through → V E 0 0 88 [(0, .ref o_p0), (4, .int x_4), (5, .int x_5)] [] (cl_X1_makeForm T o_p0 a_p0 s_p0_there s_p0_kind s_p0_tag s_p0_size s_p0_lineCount s_p0_near s_p0_sets s_p0_through) := by
  intro n_
  induction n_ with
  | zero => intro x_5 s_p0_lineCount s_p0_near s_p0_sets s_p0_through h; exact h.elim
  | succ n_ hK_88 =>
    intro x_5 s_p0_lineCount s_p0_near s_p0_sets s_p0_through h
    replace h : w_X1_makeForm_88s x_4 s_p0_there s_p0_kind s_p0_tag s_p0_size K_73 Q (w_X1_makeForm_88 x_4 s_p0_there s_p0_kind s_p0_tag s_p0_size K_73 Q n_) x_5 s_p0_lineCount s_p0_near s_p0_sets s_p0_through := h
    unfold w_X1_makeForm_88s at h
    refine v_iload X 2 dX1_makeForm_88 rfl ?_
    refine v_aload_n X 0 dX1_makeForm_90 rfl rfl ?_
    refine v_getN X 0 6 (F := TX5) (N := 8) iX1_makeForm_X5 rfl rfl (by decide) (List.mem_of_getElem? (i := 28) rfl) rfl rfl dX1_makeForm_91 ?_
    refine v_icmp_ge X (tgt := 154) dX1_makeForm_94 (by decide) (fun c_94 => ?_) (fun c_94 => ?_)
    · replace h := h.1 c_94
      refine v_iinc X (v := (x_4 + (1 : Int32))) (lv' := [(4, .int (x_4 + (1 : Int32))), (0, .ref o_p0), (5, .int x_5)]) 1 dX1_makeForm_154 rfl rfl (by decide) rfl ?_
      refine v_goto X (tgt := 73) dX1_makeForm_157 (by decide) ?_
      refine v_lv (lv' := [(0, .ref o_p0), (4, .int (x_4 + (1 : Int32)))]) [1, 0] rfl ?_
      exact hK_73 _ _ _ _ _ h
    · replace h := h.2 c_94
      refine v_aload_n X 0 dX1_makeForm_97 rfl rfl ?_
      refine v_getN X 0 2 (F := TX5) (N := 8) iX1_makeForm_X5 rfl rfl (by decide) (List.mem_of_getElem? (i := 20) rfl) rfl rfl dX1_makeForm_98 ?_
      refine v_iload X 1 dX1_makeForm_101 rfl ?_
      refine v_lald X 1 1 rfl rfl h.1 dX1_makeForm_103 ?_
      replace h := h.2
      refine v_aload_n X 0 dX1_makeForm_104 rfl rfl ?_
      refine v_getN X 0 2 (F := TX5) (N := 8) iX1_makeForm_X5 rfl rfl (by decide) (List.mem_of_getElem? (i := 20) rfl) rfl rfl dX1_makeForm_105 ?_
      refine v_iload X 2 dX1_makeForm_108 rfl ?_
      refine v_lald X 1 1 rfl rfl h.1 dX1_makeForm_110 ?_
      replace h := h.2
      refine v_land X dX1_makeForm_111 ?_
      refine v_lstore X (lv' := [(6, .long ((s_p0_near (x_4).toNatClampNeg) &&& (s_p0_near (x_5).toNatClampNeg))), (0, .ref o_p0), (4, .int x_4), (5, .int x_5)]) dX1_makeForm_112 (by decide) rfl ?_
      refine v_aload_n X 1 dX1_makeForm_114 rfl rfl ?_
      refine v_iload X 2 dX1_makeForm_115 rfl ?_
      refine v_iload X 3 dX1_makeForm_117 rfl ?_
      refine v_callVi X (As := [.int x_4, .int x_5]) (rest := []) 2 0 (c_X5_areNear (l := vl E) (D := vD E) (T := T) (o_p0 := o_p0) (a_p0 := a_p0) (s_p0_there := s_p0_there) (s_p0_kind := s_p0_kind) (s_p0_tag := s_p0_tag) (s_p0_size := s_p0_size) (s_p0_lineCount := s_p0_lineCount) (s_p0_near := s_p0_near) (x_1 := x_4) (x_2 := x_5) h) gX1_makeForm_X5_areNear rfl rfl (by decide +kernel) ⟨Nat.zero_le _, Nat.zero_le _⟩ ⟨rfl, rfl, by decide, by decide⟩ (Nat.le_of_ble_eq_true rfl) rfl rfl (wr := [vJ T (a_p0 0) 45 s_p0_sets, vJ T (a_p0 1) 45 s_p0_through]) [0, 1] [2, 3] rfl rfl rfl rfl (by decide) rfl dX1_makeForm_119 (fun r_119 u h => ?_)
      refine v_ws (ws' := (cl_X1_makeForm T o_p0 a_p0 s_p0_there s_p0_kind s_p0_tag s_p0_size s_p0_lineCount s_p0_near s_p0_sets s_p0_through)) [2, 3, 0, 1] rfl rfl ?_
      refine v_if_eq X (tgt := 148) dX1_makeForm_122 (by decide) (fun c_122 => ?_) (fun c_122 => ?_)
      · replace h := h.1 c_122
        refine v_lv (lv' := [(0, .ref o_p0), (4, .int x_4), (5, .int x_5)]) [1, 2, 3] rfl ?_
        exact k_X1_makeForm_148 X r hK_73 hK_88 h
      · replace h := h.2 c_122
        refine v_lload X 0 dX1_makeForm_125 rfl ?_
        refine v_iload X 3 dX1_makeForm_127 rfl ?_
        refine v_callNl0 X (As := [.int x_5]) (rest := [.long ((s_p0_near (x_4).toNatClampNeg) &&& (s_p0_near (x_5).toNatClampNeg))]) 1 (c_X6_below (l := vl E) (D := vD E) (T := T) (x_0 := x_5) h) gX1_makeForm_X6_below_n15 (List.mem_of_getElem? (i := 37) rfl) (List.mem_of_getElem? (i := 28) rfl) (List.mem_of_getElem? (i := 30) rfl) rfl rfl (by decide +kernel) ⟨Nat.zero_le _, Nat.zero_le _⟩ ⟨rfl, rfl, by decide, by decide⟩ (Nat.le_of_ble_eq_true rfl) rfl dX1_makeForm_129 (fun r_129 h => ?_)
        refine v_land X dX1_makeForm_132 ?_
        refine v_lconst X dX1_makeForm_133 (v := (1 : Int64)) (by decide) ?_
        refine v_iload X 2 dX1_makeForm_134 rfl ?_
        refine v_lshl X dX1_makeForm_136 ?_
        refine v_lcmp X dX1_makeForm_137 ?_
        refine v_if_ne X (tgt := 148) dX1_makeForm_138 (by decide) (fun c_138 => ?_) (fun c_138 => ?_)
        · replace h := h.1 c_138
          refine v_lv (lv' := [(0, .ref o_p0), (4, .int x_4), (5, .int x_5)]) [1, 2, 3] rfl ?_
          exact k_X1_makeForm_148 X r hK_73 hK_88 h
        · replace h := h.2 c_138
          refine v_aload_n X 1 dX1_makeForm_141 rfl rfl ?_
          refine v_lload X 0 dX1_makeForm_142 rfl ?_
          refine v_callVi X (As := [.long ((s_p0_near (x_4).toNatClampNeg) &&& (s_p0_near (x_5).toNatClampNeg))]) (rest := []) 1 0 (c_X5_add (l := vl E) (D := vD E) (T := T) (o_p0 := o_p0) (a_p0 := a_p0) (s_p0_there := s_p0_there) (s_p0_kind := s_p0_kind) (s_p0_tag := s_p0_tag) (s_p0_size := s_p0_size) (s_p0_lineCount := s_p0_lineCount) (s_p0_near := s_p0_near) (s_p0_sets := s_p0_sets) (s_p0_through := s_p0_through) (x_1 := ((s_p0_near (x_4).toNatClampNeg) &&& (s_p0_near (x_5).toNatClampNeg))) h) gX1_makeForm_X5_add rfl rfl (by decide +kernel) ⟨Nat.zero_le _, Nat.zero_le _⟩ ⟨rfl, rfl, by decide, by decide⟩ (Nat.le_of_ble_eq_true rfl) rfl rfl (wr := []) [0, 1, 2, 3] [] rfl rfl rfl rfl (by decide) rfl dX1_makeForm_144 (fun r_144 u h => ?_)
          obtain ⟨u_144_0, u_144_1, u_144_2, u_144_3⟩ := u
          dsimp only at h
          refine v_ws (ws' := (cl_X1_makeForm T o_p0 a_p0 s_p0_there s_p0_kind s_p0_tag s_p0_size u_144_0 u_144_1 u_144_2 u_144_3)) [0, 1, 2, 3] rfl rfl ?_
          refine v_pop X dX1_makeForm_147 rfl ?_
          refine v_lv (lv' := [(0, .ref o_p0), (4, .int x_4), (5, .int x_5)]) [1, 2, 3] rfl ?_
          exact k_X1_makeForm_148 X r hK_73 hK_88 h
set_option maxHeartbeats 4000000 in
set_option maxRecDepth 100000 in
theorem k_X1_makeForm_73 {E : vE} {T : Nat → ClassId} {o_p0 : Nat} {a_p0 : Nat → Nat} {s_p0_there : Int32} {s_p0_kind : Int32} {s_p0_tag : Int32} {s_p0_size : Int32} {Q : (Int32) → (Int32) → (Int32) → (Int32) → (Int32) → (Nat → Int64) → (Nat → Int64) → (Nat → Int64) → Prop} (X : vX E cX1_makeForm 8 RX1 wsX1_makeForm (vT T) (vr 2 56)) (r : r_X1_makeForm E T o_p0 a_p0 Q) : ∀ (n_ : Nat) (x_4 : Int32) (s_p0_lineCount : Int32) (s_p0_near : Nat → Int64) (s_p0_sets : Nat → Int64) (s_p0_through : Nat → Int64), w_X1_makeForm_73 s_p0_there s_p0_kind s_p0_tag s_p0_size Q n_ x_4 s_p0_lineCount s_p0_near s_p0_sets s_p0_through → V E 0 0 73 [(0, .ref o_p0), (4, .int x_4)] [] (cl_X1_makeForm T o_p0 a_p0 s_p0_there s_p0_kind s_p0_tag s_p0_size s_p0_lineCount s_p0_near s_p0_sets s_p0_through) := by
  intro n_
  induction n_ with
  | zero => intro x_4 s_p0_lineCount s_p0_near s_p0_sets s_p0_through h; exact h.elim
  | succ n_ hK_73 =>
    intro x_4 s_p0_lineCount s_p0_near s_p0_sets s_p0_through h
    replace h : w_X1_makeForm_73s s_p0_there s_p0_kind s_p0_tag s_p0_size Q (w_X1_makeForm_73 s_p0_there s_p0_kind s_p0_tag s_p0_size Q n_) x_4 s_p0_lineCount s_p0_near s_p0_sets s_p0_through := h
    unfold w_X1_makeForm_73s at h
    refine v_iload X 1 dX1_makeForm_73 rfl ?_
    refine v_aload_n X 0 dX1_makeForm_75 rfl rfl ?_
    refine v_getN X 0 6 (F := TX5) (N := 8) iX1_makeForm_X5 rfl rfl (by decide) (List.mem_of_getElem? (i := 28) rfl) rfl rfl dX1_makeForm_76 ?_
    refine v_icmp_ge X (tgt := 160) dX1_makeForm_79 (by decide) (fun c_79 => ?_) (fun c_79 => ?_)
    · replace h := h.1 c_79
      exact r _ _ (s_p0_there, s_p0_kind, s_p0_tag, s_p0_size, s_p0_lineCount, s_p0_near, s_p0_sets, s_p0_through) _ dX1_makeForm_160 h rfl
    · replace h := h.2 c_79
      refine v_iload X 1 dX1_makeForm_82 rfl ?_
      refine v_iconst X dX1_makeForm_84 (v := (1 : Int32)) (by decide) ?_
      refine v_iadd X dX1_makeForm_85 ?_
      refine v_istore X (lv' := [(5, .int (x_4 + (1 : Int32))), (0, .ref o_p0), (4, .int x_4)]) dX1_makeForm_86 (by decide) rfl ?_
      refine v_lv (lv' := [(0, .ref o_p0), (4, .int x_4), (5, .int (x_4 + (1 : Int32)))]) [1, 2, 0] rfl ?_
      obtain ⟨n_, h⟩ := h
      exact k_X1_makeForm_88 X r hK_73 n_ _ _ _ _ _ h
set_option maxHeartbeats 4000000 in
set_option maxRecDepth 100000 in
theorem k_X1_makeForm_70 {E : vE} {T : Nat → ClassId} {o_p0 : Nat} {a_p0 : Nat → Nat} {s_p0_there : Int32} {s_p0_kind : Int32} {s_p0_tag : Int32} {s_p0_size : Int32} {s_p0_lineCount : Int32} {s_p0_near : Nat → Int64} {s_p0_sets : Nat → Int64} {s_p0_through : Nat → Int64} {Q : (Int32) → (Int32) → (Int32) → (Int32) → (Int32) → (Nat → Int64) → (Nat → Int64) → (Nat → Int64) → Prop} (X : vX E cX1_makeForm 8 RX1 wsX1_makeForm (vT T) (vr 2 56)) (r : r_X1_makeForm E T o_p0 a_p0 Q) (h : w_X1_makeForm_70 s_p0_there s_p0_kind s_p0_tag s_p0_size s_p0_lineCount s_p0_near s_p0_sets s_p0_through Q) : V E 0 0 70 [(0, .ref o_p0)] [] (cl_X1_makeForm T o_p0 a_p0 s_p0_there s_p0_kind s_p0_tag s_p0_size s_p0_lineCount s_p0_near s_p0_sets s_p0_through) := by
  unfold w_X1_makeForm_70 at h
  refine v_iconst X dX1_makeForm_70 (v := (0 : Int32)) (by decide) ?_
  refine v_istore X (lv' := [(4, .int (0 : Int32)), (0, .ref o_p0)]) dX1_makeForm_71 (by decide) rfl ?_
  refine v_lv (lv' := [(0, .ref o_p0), (4, .int (0 : Int32))]) [1, 0] rfl ?_
  obtain ⟨n_, h⟩ := h
  exact k_X1_makeForm_73 X r n_ _ _ _ _ _ h
set_option maxHeartbeats 4000000 in
set_option maxRecDepth 100000 in
theorem k_X1_makeForm_64 {E : vE} {T : Nat → ClassId} {o_p0 : Nat} {a_p0 : Nat → Nat} {s_p0_there : Int32} {s_p0_kind : Int32} {s_p0_tag : Int32} {s_p0_size : Int32} {s_p0_lineCount : Int32} {s_p0_near : Nat → Int64} {s_p0_sets : Nat → Int64} {s_p0_through : Nat → Int64} {x_1 : Int32} {x_2 : Int32} {x_3 : Int32} {x_4 : Int32} {K_26 : (Int32) → (Int32) → (Nat → Int64) → Prop} {Q : (Int32) → (Int32) → (Int32) → (Int32) → (Int32) → (Nat → Int64) → (Nat → Int64) → (Nat → Int64) → Prop} (X : vX E cX1_makeForm 8 RX1 wsX1_makeForm (vT T) (vr 2 56)) (r : r_X1_makeForm E T o_p0 a_p0 Q) (hK_26 : ∀ (x_3' : Int32) (x_4' : Int32) (s_p0_near' : Nat → Int64), K_26 x_3' x_4' s_p0_near' → V E 0 0 26 [(0, .ref o_p0), (1, .int x_1), (2, .int x_2), (3, .int x_3'), (4, .int x_4')] [] (cl_X1_makeForm T o_p0 a_p0 s_p0_there s_p0_kind s_p0_tag s_p0_size s_p0_lineCount s_p0_near' s_p0_sets s_p0_through)) (h : w_X1_makeForm_64 x_1 x_2 x_3 x_4 s_p0_there s_p0_kind s_p0_tag s_p0_size s_p0_lineCount s_p0_near s_p0_sets s_p0_through K_26 Q) : V E 0 0 64 [(0, .ref o_p0), (1, .int x_1), (2, .int x_2), (3, .int x_3), (4, .int x_4)] [] (cl_X1_makeForm T o_p0 a_p0 s_p0_there s_p0_kind s_p0_tag s_p0_size s_p0_lineCount s_p0_near s_p0_sets s_p0_through) := by
  unfold w_X1_makeForm_64 at h
  refine v_iinc X (v := (x_4 + (1 : Int32))) (lv' := [(4, .int (x_4 + (1 : Int32))), (0, .ref o_p0), (1, .int x_1), (2, .int x_2), (3, .int x_3)]) 4 dX1_makeForm_64 rfl rfl (by decide) rfl ?_
  refine v_goto X (tgt := 26) dX1_makeForm_67 (by decide) ?_
  refine v_lv (lv' := [(0, .ref o_p0), (1, .int x_1), (2, .int x_2), (3, .int x_3), (4, .int (x_4 + (1 : Int32)))]) [1, 2, 3, 4, 0] rfl ?_
  exact hK_26 _ _ _ h
set_option maxHeartbeats 4000000 in
set_option maxRecDepth 100000 in
theorem k_X1_makeForm_26 {E : vE} {T : Nat → ClassId} {o_p0 : Nat} {a_p0 : Nat → Nat} {s_p0_there : Int32} {s_p0_kind : Int32} {s_p0_tag : Int32} {s_p0_size : Int32} {s_p0_lineCount : Int32} {s_p0_sets : Nat → Int64} {s_p0_through : Nat → Int64} {x_1 : Int32} {x_2 : Int32} {Q : (Int32) → (Int32) → (Int32) → (Int32) → (Int32) → (Nat → Int64) → (Nat → Int64) → (Nat → Int64) → Prop} (X : vX E cX1_makeForm 8 RX1 wsX1_makeForm (vT T) (vr 2 56)) (r : r_X1_makeForm E T o_p0 a_p0 Q) : ∀ (n_ : Nat) (x_3 : Int32) (x_4 : Int32) (s_p0_near : Nat → Int64), w_X1_makeForm_26 x_1 x_2 s_p0_there s_p0_kind s_p0_tag s_p0_size s_p0_lineCount s_p0_sets s_p0_through Q n_ x_3 x_4 s_p0_near → V E 0 0 26 [(0, .ref o_p0), (1, .int x_1), (2, .int x_2), (3, .int x_3), (4, .int x_4)] [] (cl_X1_makeForm T o_p0 a_p0 s_p0_there s_p0_kind s_p0_tag s_p0_size s_p0_lineCount s_p0_near s_p0_sets s_p0_through) := by
  intro n_
  induction n_ with
  | zero => intro x_3 x_4 s_p0_near h; exact h.elim
  | succ n_ hK_26 =>
    intro x_3 x_4 s_p0_near h
    replace h : w_X1_makeForm_26s x_1 x_2 s_p0_there s_p0_kind s_p0_tag s_p0_size s_p0_lineCount s_p0_sets s_p0_through Q (w_X1_makeForm_26 x_1 x_2 s_p0_there s_p0_kind s_p0_tag s_p0_size s_p0_lineCount s_p0_sets s_p0_through Q n_) x_3 x_4 s_p0_near := h
    unfold w_X1_makeForm_26s at h
    refine v_iload X 4 dX1_makeForm_26 rfl ?_
    refine v_iload_n X 2 dX1_makeForm_28 rfl rfl ?_
    refine v_icmp_ge X (tgt := 70) dX1_makeForm_29 (by decide) (fun c_29 => ?_) (fun c_29 => ?_)
    · replace h := h.1 c_29
      refine v_lv (lv' := [(0, .ref o_p0)]) [0] rfl ?_
      exact k_X1_makeForm_70 X r h
    · replace h := h.2 c_29
      refine v_iload_n X 3 dX1_makeForm_32 rfl rfl ?_
      refine v_aload_n X 0 dX1_makeForm_33 rfl rfl ?_
      refine v_getN X 0 6 (F := TX5) (N := 8) iX1_makeForm_X5 rfl rfl (by decide) (List.mem_of_getElem? (i := 28) rfl) rfl rfl dX1_makeForm_34 ?_
      refine v_icmp_ge X (tgt := 70) dX1_makeForm_37 (by decide) (fun c_37 => ?_) (fun c_37 => ?_)
      · replace h := h.1 c_37
        refine v_lv (lv' := [(0, .ref o_p0)]) [0] rfl ?_
        exact k_X1_makeForm_70 X r h
      · replace h := h.2 c_37
        refine v_iload X 4 dX1_makeForm_40 rfl ?_
        refine v_iload_n X 1 dX1_makeForm_42 rfl rfl ?_
        refine v_callSi0 X (As := [.int x_4, .int x_1]) (rest := []) 2 (c_X1_isFormPoint (l := vl E) (D := vD E) (T := T) (x_0 := x_4) (x_1 := x_1) h) gX1_makeForm_X1_isFormPoint rfl rfl (by decide +kernel) ⟨Nat.zero_le _, Nat.zero_le _⟩ ⟨rfl, rfl, by decide, by decide⟩ (Nat.le_of_ble_eq_true rfl) rfl dX1_makeForm_43 (fun r_43 h => ?_)
        refine v_if_eq X (tgt := 64) dX1_makeForm_46 (by decide) (fun c_46 => ?_) (fun c_46 => ?_)
        · replace h := h.1 c_46
          exact k_X1_makeForm_64 X r hK_26 h
        · replace h := h.2 c_46
          refine v_aload_n X 0 dX1_makeForm_49 rfl rfl ?_
          refine v_getN X 0 2 (F := TX5) (N := 8) iX1_makeForm_X5 rfl rfl (by decide) (List.mem_of_getElem? (i := 20) rfl) rfl rfl dX1_makeForm_50 ?_
          refine v_iload_n X 3 dX1_makeForm_53 rfl rfl ?_
          refine v_iload X 4 dX1_makeForm_54 rfl ?_
          refine v_iload_n X 1 dX1_makeForm_56 rfl rfl ?_
          refine v_callSl0 X (As := [.int x_4, .int x_1]) (rest := [.int x_3, .ref (a_p0 2)]) 2 (c_X1_nearByForm (l := vl E) (D := vD E) (T := T) (x_0 := x_4) (x_1 := x_1) h) gX1_makeForm_X1_nearByForm rfl rfl (by decide +kernel) ⟨Nat.zero_le _, Nat.zero_le _⟩ ⟨rfl, rfl, by decide, by decide⟩ (Nat.le_of_ble_eq_true rfl) rfl dX1_makeForm_57 (fun r_57 h => ?_)
          refine v_last X (ws' := (cl_X1_makeForm T o_p0 a_p0 s_p0_there s_p0_kind s_p0_tag s_p0_size s_p0_lineCount (vp_updL s_p0_near (x_3).toNatClampNeg r_57) s_p0_sets s_p0_through)) 1 1 rfl rfl h.1 rfl dX1_makeForm_60 ?_
          replace h := h.2
          refine v_iinc X (v := (x_3 + (1 : Int32))) (lv' := [(3, .int (x_3 + (1 : Int32))), (0, .ref o_p0), (1, .int x_1), (2, .int x_2), (4, .int x_4)]) 3 dX1_makeForm_61 rfl rfl (by decide) rfl ?_
          refine v_lv (lv' := [(0, .ref o_p0), (1, .int x_1), (2, .int x_2), (3, .int (x_3 + (1 : Int32))), (4, .int x_4)]) [1, 2, 3, 0, 4] rfl ?_
          exact k_X1_makeForm_64 X r hK_26 h
set_option maxHeartbeats 4000000 in
set_option maxRecDepth 100000 in
theorem c_X1_makeForm {l : Launch} {D : va_G} {T : Nat → ClassId} {o_p0 : Nat} {a_p0 : Nat → Nat} {s_p0_there : Int32} {s_p0_kind : Int32} {s_p0_tag : Int32} {s_p0_size : Int32} {s_p0_lineCount : Int32} {s_p0_near : Nat → Int64} {s_p0_sets : Nat → Int64} {s_p0_through : Nat → Int64} {x_1 : Int32} {Q : (Int32) → (Int32) → (Int32) → (Int32) → (Int32) → (Nat → Int64) → (Nat → Int64) → (Nat → Int64) → Prop} (h : w_X1_makeForm x_1 s_p0_there s_p0_kind s_p0_tag s_p0_size s_p0_lineCount s_p0_near s_p0_sets s_p0_through Q) : vCv l D (vT T) yX1_makeForm wsX1_makeForm (vr 2 56) [.ref o_p0, .int x_1] (cl_X1_makeForm T o_p0 a_p0 s_p0_there s_p0_kind s_p0_tag s_p0_size s_p0_lineCount s_p0_near s_p0_sets s_p0_through) (fun (u : (Int32) × (Int32) × (Int32) × (Int32) × (Int32) × (Nat → Int64) × (Nat → Int64) × (Nat → Int64)) => Q u.1 u.2.1 u.2.2.1 u.2.2.2.1 u.2.2.2.2.1 u.2.2.2.2.2.1 u.2.2.2.2.2.2.1 u.2.2.2.2.2.2.2) (fun (u : (Int32) × (Int32) × (Int32) × (Int32) × (Int32) × (Nat → Int64) × (Nat → Int64) × (Nat → Int64)) => (cl_X1_makeForm T o_p0 a_p0 u.1 u.2.1 u.2.2.1 u.2.2.2.1 u.2.2.2.2.1 u.2.2.2.2.2.1 u.2.2.2.2.2.2.1 u.2.2.2.2.2.2.2)) := by
  refine vC_v (cc := cX1_makeForm) (nL := 8) (by decide +kernel) rfl ⟨rfl, rfl⟩ (Nat.le_of_ble_eq_true rfl) rfl ?_
  intro E el eD X r
  unfold w_X1_makeForm at h
  refine v_iload_n X 1 dX1_makeForm_0 rfl rfl ?_
  refine v_iload_n X 1 dX1_makeForm_1 rfl rfl ?_
  refine v_imul X dX1_makeForm_2 ?_
  refine v_iload_n X 1 dX1_makeForm_3 rfl rfl ?_
  refine v_imul X dX1_makeForm_4 ?_
  refine v_iload_n X 1 dX1_makeForm_5 rfl rfl ?_
  refine v_imul X dX1_makeForm_6 ?_
  refine v_istore_n X (lv' := [(2, .int (((x_1 * x_1) * x_1) * x_1)), (0, .ref o_p0), (1, .int x_1)]) dX1_makeForm_7 rfl (by decide) rfl ?_
  refine v_aload_n X 1 dX1_makeForm_8 rfl rfl ?_
  refine v_iconst X dX1_makeForm_9 (v := (2 : Int32)) (by decide) ?_
  refine v_iload_n X 0 dX1_makeForm_10 rfl rfl ?_
  refine v_iconst X dX1_makeForm_11 (v := (1 : Int32)) (by decide) ?_
  refine v_isub X dX1_makeForm_12 ?_
  refine v_iload_n X 2 dX1_makeForm_13 rfl rfl ?_
  refine v_iconst X dX1_makeForm_14 (v := (1 : Int32)) (by decide) ?_
  refine v_isub X dX1_makeForm_15 ?_
  refine v_idiv X dX1_makeForm_16 h.1 ?_
  replace h := h.2
  refine v_iload_n X 2 dX1_makeForm_17 rfl rfl ?_
  refine v_callVv X (As := [.int (2 : Int32), .int (((((x_1 * x_1) * x_1) * x_1) - (1 : Int32)) / (x_1 - (1 : Int32))), .int x_1]) (rest := []) 3 0 (c_X5_begin (l := vl E) (D := vD E) (T := T) (o_p0 := o_p0) (a_p0 := a_p0) (s_p0_there := s_p0_there) (s_p0_kind := s_p0_kind) (s_p0_tag := s_p0_tag) (s_p0_size := s_p0_size) (s_p0_lineCount := s_p0_lineCount) (s_p0_near := s_p0_near) (s_p0_through := s_p0_through) (x_1 := (2 : Int32)) (x_2 := (((((x_1 * x_1) * x_1) * x_1) - (1 : Int32)) / (x_1 - (1 : Int32)))) (x_3 := x_1) h) gX1_makeForm_X5_begin rfl rfl (by decide +kernel) ⟨Nat.zero_le _, Nat.zero_le _⟩ ⟨rfl, rfl, by decide, by decide⟩ (Nat.le_of_ble_eq_true rfl) rfl rfl (wr := [vJ T (a_p0 0) 45 s_p0_sets]) [0, 1, 3] [2] rfl rfl rfl rfl (by decide) rfl dX1_makeForm_18 (fun u h => ?_)
  obtain ⟨u_18_0, u_18_1, u_18_2, u_18_3, u_18_4, u_18_5, u_18_6⟩ := u
  dsimp only at h
  refine v_ws (ws' := (cl_X1_makeForm T o_p0 a_p0 u_18_0 u_18_1 u_18_2 u_18_3 u_18_4 u_18_5 s_p0_sets u_18_6)) [1, 2, 0, 3] rfl rfl ?_
  refine v_iconst X dX1_makeForm_21 (v := (0 : Int32)) (by decide) ?_
  refine v_istore_n X (lv' := [(3, .int (0 : Int32)), (2, .int (((x_1 * x_1) * x_1) * x_1)), (0, .ref o_p0), (1, .int x_1)]) dX1_makeForm_22 rfl (by decide) rfl ?_
  refine v_iconst X dX1_makeForm_23 (v := (1 : Int32)) (by decide) ?_
  refine v_istore X (lv' := [(4, .int (1 : Int32)), (3, .int (0 : Int32)), (2, .int (((x_1 * x_1) * x_1) * x_1)), (0, .ref o_p0), (1, .int x_1)]) dX1_makeForm_24 (by decide) rfl ?_
  refine v_lv (lv' := [(0, .ref o_p0), (1, .int x_1), (2, .int (((x_1 * x_1) * x_1) * x_1)), (3, .int (0 : Int32)), (4, .int (1 : Int32))]) [3, 4, 2, 1, 0] rfl ?_
  obtain ⟨n_, h⟩ := h
  exact k_X1_makeForm_26 X r n_ _ _ _ h
-- X1_makeTurned
abbrev cl_X1_makeTurned (T : Nat → ClassId) (o_p0 : Nat) (a_p0 : Nat → Nat) (o_p1 : Nat) (a_p1 : Nat → Nat) (s_p0_there : Int32) (s_p0_kind : Int32) (s_p0_tag : Int32) (s_p0_size : Int32) (s_p0_lineCount : Int32) (s_p0_through : Nat → Int64) (s_p1_there : Int32) (s_p1_kind : Int32) (s_p1_tag : Int32) (s_p1_size : Int32) (s_p1_lineCount : Int32) (s_p1_near : Nat → Int64) (s_p1_sets : Nat → Int64) (s_p1_through : Nat → Int64) : va_W := [vO o_p0 2 [.ref (a_p0 0), .ref (a_p0 1), .ref (a_p0 2), .int s_p0_there, .int s_p0_kind, .int s_p0_tag, .int s_p0_size, .int s_p0_lineCount], vJ T (a_p0 1) 45 s_p0_through, vO o_p1 2 [.ref (a_p1 0), .ref (a_p1 1), .ref (a_p1 2), .int s_p1_there, .int s_p1_kind, .int s_p1_tag, .int s_p1_size, .int s_p1_lineCount], vJ T (a_p1 2) 45 s_p1_near, vJ T (a_p1 0) 45 s_p1_sets, vJ T (a_p1 1) 45 s_p1_through]
abbrev r_X1_makeTurned (E : vE) (T : Nat → ClassId) (o_p0 : Nat) (a_p0 : Nat → Nat) (o_p1 : Nat) (a_p1 : Nat → Nat) (s_p0_there : Int32) (s_p0_kind : Int32) (s_p0_tag : Int32) (s_p0_size : Int32) (s_p0_lineCount : Int32) (s_p0_through : Nat → Int64) (Q : (Int32) → (Int32) → (Int32) → (Int32) → (Int32) → (Nat → Int64) → (Nat → Int64) → (Nat → Int64) → Prop) : Prop := vRv E cX1_makeTurned (fun (u : (Int32) × (Int32) × (Int32) × (Int32) × (Int32) × (Nat → Int64) × (Nat → Int64) × (Nat → Int64)) => Q u.1 u.2.1 u.2.2.1 u.2.2.2.1 u.2.2.2.2.1 u.2.2.2.2.2.1 u.2.2.2.2.2.2.1 u.2.2.2.2.2.2.2) (fun (u : (Int32) × (Int32) × (Int32) × (Int32) × (Int32) × (Nat → Int64) × (Nat → Int64) × (Nat → Int64)) => (cl_X1_makeTurned T o_p0 a_p0 o_p1 a_p1 s_p0_there s_p0_kind s_p0_tag s_p0_size s_p0_lineCount s_p0_through u.1 u.2.1 u.2.2.1 u.2.2.2.1 u.2.2.2.2.1 u.2.2.2.2.2.1 u.2.2.2.2.2.2.1 u.2.2.2.2.2.2.2))
def w_X1_makeTurned_12s (s_p0_size : Int32) (s_p0_lineCount : Int32) (s_p0_through : Nat → Int64) (s_p1_there : Int32) (s_p1_kind : Int32) (s_p1_tag : Int32) (s_p1_size : Int32) (Q : (Int32) → (Int32) → (Int32) → (Int32) → (Int32) → (Nat → Int64) → (Nat → Int64) → (Nat → Int64) → Prop) (K_12 : (Int32) → (Int32) → (Nat → Int64) → (Nat → Int64) → (Nat → Int64) → Prop) (x_2 : Int32) (s_p1_lineCount : Int32) (s_p1_near : Nat → Int64) (s_p1_sets : Nat → Int64) (s_p1_through : Nat → Int64) : Prop := ((s_p0_size ≤ x_2 → (Q s_p1_there s_p1_kind s_p1_tag s_p1_size s_p1_lineCount s_p1_near s_p1_sets s_p1_through)) ∧ (¬ s_p0_size ≤ x_2 → (vp_in x_2 45 ∧ (w_X5_add (s_p0_through (x_2).toNatClampNeg) s_p1_size s_p1_lineCount s_p1_near s_p1_sets s_p1_through (fun (r_27 : Int32) (u_27_0 : Int32) (u_27_1 : Nat → Int64) (u_27_2 : Nat → Int64) (u_27_3 : Nat → Int64) => (K_12 (x_2 + (1 : Int32)) u_27_0 u_27_1 u_27_2 u_27_3))))))
def w_X1_makeTurned_12 (s_p0_size : Int32) (s_p0_lineCount : Int32) (s_p0_through : Nat → Int64) (s_p1_there : Int32) (s_p1_kind : Int32) (s_p1_tag : Int32) (s_p1_size : Int32) (Q : (Int32) → (Int32) → (Int32) → (Int32) → (Int32) → (Nat → Int64) → (Nat → Int64) → (Nat → Int64) → Prop) : Nat → (Int32) → (Int32) → (Nat → Int64) → (Nat → Int64) → (Nat → Int64) → Prop
  | 0 => fun _ _ _ _ _ => False
  | n_ + 1 => w_X1_makeTurned_12s s_p0_size s_p0_lineCount s_p0_through s_p1_there s_p1_kind s_p1_tag s_p1_size Q (w_X1_makeTurned_12 s_p0_size s_p0_lineCount s_p0_through s_p1_there s_p1_kind s_p1_tag s_p1_size Q n_)
def w_X1_makeTurned (s_p0_size : Int32) (s_p0_lineCount : Int32) (s_p0_through : Nat → Int64) (s_p1_there : Int32) (s_p1_kind : Int32) (s_p1_tag : Int32) (s_p1_size : Int32) (s_p1_lineCount : Int32) (s_p1_near : Nat → Int64) (s_p1_sets : Nat → Int64) (s_p1_through : Nat → Int64) (Q : (Int32) → (Int32) → (Int32) → (Int32) → (Int32) → (Nat → Int64) → (Nat → Int64) → (Nat → Int64) → Prop) : Prop := (w_X5_begin (3 : Int32) s_p0_lineCount (0 : Int32) s_p1_there s_p1_kind s_p1_tag s_p1_size s_p1_lineCount s_p1_near s_p1_through (fun (u_7_0 : Int32) (u_7_1 : Int32) (u_7_2 : Int32) (u_7_3 : Int32) (u_7_4 : Int32) (u_7_5 : Nat → Int64) (u_7_6 : Nat → Int64) => (∃ n_, w_X1_makeTurned_12 s_p0_size s_p0_lineCount s_p0_through u_7_0 u_7_1 u_7_2 u_7_3 Q n_ (0 : Int32) u_7_4 u_7_5 s_p1_sets u_7_6)))
-- X1_makeTurned
theorem iX1_makeTurned_X5 : ∀ w ∈ wsX50, w ∈ wsX1_makeTurned := by decide +kernel
set_option maxHeartbeats 4000000 in
set_option maxRecDepth 100000 in
theorem k_X1_makeTurned_12 {E : vE} {T : Nat → ClassId} {o_p0 : Nat} {a_p0 : Nat → Nat} {o_p1 : Nat} {a_p1 : Nat → Nat} {s_p0_there : Int32} {s_p0_kind : Int32} {s_p0_tag : Int32} {s_p0_size : Int32} {s_p0_lineCount : Int32} {s_p0_through : Nat → Int64} {s_p1_there : Int32} {s_p1_kind : Int32} {s_p1_tag : Int32} {s_p1_size : Int32} {Q : (Int32) → (Int32) → (Int32) → (Int32) → (Int32) → (Nat → Int64) → (Nat → Int64) → (Nat → Int64) → Prop} (X : vX E cX1_makeTurned 3 RX1 wsX1_makeTurned (vT T) (vr 2 45)) (r : r_X1_makeTurned E T o_p0 a_p0 o_p1 a_p1 s_p0_there s_p0_kind s_p0_tag s_p0_size s_p0_lineCount s_p0_through Q) : ∀ (n_ : Nat) (x_2 : Int32) (s_p1_lineCount : Int32) (s_p1_near : Nat → Int64) (s_p1_sets : Nat → Int64) (s_p1_through : Nat → Int64), w_X1_makeTurned_12 s_p0_size s_p0_lineCount s_p0_through s_p1_there s_p1_kind s_p1_tag s_p1_size Q n_ x_2 s_p1_lineCount s_p1_near s_p1_sets s_p1_through → V E 0 0 12 [(0, .ref o_p0), (1, .ref o_p1), (2, .int x_2)] [] (cl_X1_makeTurned T o_p0 a_p0 o_p1 a_p1 s_p0_there s_p0_kind s_p0_tag s_p0_size s_p0_lineCount s_p0_through s_p1_there s_p1_kind s_p1_tag s_p1_size s_p1_lineCount s_p1_near s_p1_sets s_p1_through) := by
  intro n_
  induction n_ with
  | zero => intro x_2 s_p1_lineCount s_p1_near s_p1_sets s_p1_through h; exact h.elim
  | succ n_ hK_12 =>
    intro x_2 s_p1_lineCount s_p1_near s_p1_sets s_p1_through h
    replace h : w_X1_makeTurned_12s s_p0_size s_p0_lineCount s_p0_through s_p1_there s_p1_kind s_p1_tag s_p1_size Q (w_X1_makeTurned_12 s_p0_size s_p0_lineCount s_p0_through s_p1_there s_p1_kind s_p1_tag s_p1_size Q n_) x_2 s_p1_lineCount s_p1_near s_p1_sets s_p1_through := h
    unfold w_X1_makeTurned_12s at h
    refine v_iload_n X 2 dX1_makeTurned_12 rfl rfl ?_
    refine v_aload_n X 0 dX1_makeTurned_13 rfl rfl ?_
    refine v_getN X 0 6 (F := TX5) (N := 8) iX1_makeTurned_X5 rfl rfl (by decide) (List.mem_of_getElem? (i := 28) rfl) rfl rfl dX1_makeTurned_14 ?_
    refine v_icmp_ge X (tgt := 37) dX1_makeTurned_17 (by decide) (fun c_17 => ?_) (fun c_17 => ?_)
    · replace h := h.1 c_17
      exact r _ _ (s_p1_there, s_p1_kind, s_p1_tag, s_p1_size, s_p1_lineCount, s_p1_near, s_p1_sets, s_p1_through) _ dX1_makeTurned_37 h rfl
    · replace h := h.2 c_17
      refine v_aload_n X 1 dX1_makeTurned_20 rfl rfl ?_
      refine v_aload_n X 0 dX1_makeTurned_21 rfl rfl ?_
      refine v_getN X 0 1 (F := TX5) (N := 8) iX1_makeTurned_X5 rfl rfl (by decide) (List.mem_of_getElem? (i := 18) rfl) rfl rfl dX1_makeTurned_22 ?_
      refine v_iload_n X 2 dX1_makeTurned_25 rfl rfl ?_
      refine v_lald X 1 1 rfl rfl h.1 dX1_makeTurned_26 ?_
      replace h := h.2
      refine v_callVi X (As := [.long (s_p0_through (x_2).toNatClampNeg)]) (rest := []) 1 0 (c_X5_add (l := vl E) (D := vD E) (T := T) (o_p0 := o_p1) (a_p0 := a_p1) (s_p0_there := s_p1_there) (s_p0_kind := s_p1_kind) (s_p0_tag := s_p1_tag) (s_p0_size := s_p1_size) (s_p0_lineCount := s_p1_lineCount) (s_p0_near := s_p1_near) (s_p0_sets := s_p1_sets) (s_p0_through := s_p1_through) (x_1 := (s_p0_through (x_2).toNatClampNeg)) h) gX1_makeTurned_X5_add rfl rfl (by decide +kernel) ⟨Nat.zero_le _, Nat.zero_le _⟩ ⟨rfl, rfl, by decide, by decide⟩ (Nat.le_of_ble_eq_true rfl) rfl rfl (wr := [vO o_p0 2 [.ref (a_p0 0), .ref (a_p0 1), .ref (a_p0 2), .int s_p0_there, .int s_p0_kind, .int s_p0_tag, .int s_p0_size, .int s_p0_lineCount], vJ T (a_p0 1) 45 s_p0_through]) [2, 3, 4, 5] [0, 1] rfl rfl rfl rfl (by decide) rfl dX1_makeTurned_27 (fun r_27 u h => ?_)
      obtain ⟨u_27_0, u_27_1, u_27_2, u_27_3⟩ := u
      dsimp only at h
      refine v_ws (ws' := (cl_X1_makeTurned T o_p0 a_p0 o_p1 a_p1 s_p0_there s_p0_kind s_p0_tag s_p0_size s_p0_lineCount s_p0_through s_p1_there s_p1_kind s_p1_tag s_p1_size u_27_0 u_27_1 u_27_2 u_27_3)) [0, 1, 2, 3, 4, 5] rfl rfl ?_
      refine v_pop X dX1_makeTurned_30 rfl ?_
      refine v_iinc X (v := (x_2 + (1 : Int32))) (lv' := [(2, .int (x_2 + (1 : Int32))), (0, .ref o_p0), (1, .ref o_p1)]) 2 dX1_makeTurned_31 rfl rfl (by decide) rfl ?_
      refine v_goto X (tgt := 12) dX1_makeTurned_34 (by decide) ?_
      refine v_lv (lv' := [(0, .ref o_p0), (1, .ref o_p1), (2, .int (x_2 + (1 : Int32)))]) [1, 2, 0] rfl ?_
      exact hK_12 _ _ _ _ _ h
set_option maxHeartbeats 4000000 in
set_option maxRecDepth 100000 in
theorem c_X1_makeTurned {l : Launch} {D : va_G} {T : Nat → ClassId} {o_p0 : Nat} {a_p0 : Nat → Nat} {o_p1 : Nat} {a_p1 : Nat → Nat} {s_p0_there : Int32} {s_p0_kind : Int32} {s_p0_tag : Int32} {s_p0_size : Int32} {s_p0_lineCount : Int32} {s_p0_through : Nat → Int64} {s_p1_there : Int32} {s_p1_kind : Int32} {s_p1_tag : Int32} {s_p1_size : Int32} {s_p1_lineCount : Int32} {s_p1_near : Nat → Int64} {s_p1_sets : Nat → Int64} {s_p1_through : Nat → Int64} {Q : (Int32) → (Int32) → (Int32) → (Int32) → (Int32) → (Nat → Int64) → (Nat → Int64) → (Nat → Int64) → Prop} (h : w_X1_makeTurned s_p0_size s_p0_lineCount s_p0_through s_p1_there s_p1_kind s_p1_tag s_p1_size s_p1_lineCount s_p1_near s_p1_sets s_p1_through Q) : vCv l D (vT T) yX1_makeTurned wsX1_makeTurned (vr 2 45) [.ref o_p0, .ref o_p1] (cl_X1_makeTurned T o_p0 a_p0 o_p1 a_p1 s_p0_there s_p0_kind s_p0_tag s_p0_size s_p0_lineCount s_p0_through s_p1_there s_p1_kind s_p1_tag s_p1_size s_p1_lineCount s_p1_near s_p1_sets s_p1_through) (fun (u : (Int32) × (Int32) × (Int32) × (Int32) × (Int32) × (Nat → Int64) × (Nat → Int64) × (Nat → Int64)) => Q u.1 u.2.1 u.2.2.1 u.2.2.2.1 u.2.2.2.2.1 u.2.2.2.2.2.1 u.2.2.2.2.2.2.1 u.2.2.2.2.2.2.2) (fun (u : (Int32) × (Int32) × (Int32) × (Int32) × (Int32) × (Nat → Int64) × (Nat → Int64) × (Nat → Int64)) => (cl_X1_makeTurned T o_p0 a_p0 o_p1 a_p1 s_p0_there s_p0_kind s_p0_tag s_p0_size s_p0_lineCount s_p0_through u.1 u.2.1 u.2.2.1 u.2.2.2.1 u.2.2.2.2.1 u.2.2.2.2.2.1 u.2.2.2.2.2.2.1 u.2.2.2.2.2.2.2)) := by
  refine vC_v (cc := cX1_makeTurned) (nL := 3) (by decide +kernel) rfl ⟨rfl, rfl⟩ (Nat.le_of_ble_eq_true rfl) rfl ?_
  intro E el eD X r
  unfold w_X1_makeTurned at h
  refine v_aload_n X 1 dX1_makeTurned_0 rfl rfl ?_
  refine v_iconst X dX1_makeTurned_1 (v := (3 : Int32)) (by decide) ?_
  refine v_aload_n X 0 dX1_makeTurned_2 rfl rfl ?_
  refine v_getN X 0 7 (F := TX5) (N := 8) iX1_makeTurned_X5 rfl rfl (by decide) (List.mem_of_getElem? (i := 35) rfl) rfl rfl dX1_makeTurned_3 ?_
  refine v_iconst X dX1_makeTurned_6 (v := (0 : Int32)) (by decide) ?_
  refine v_callVv X (As := [.int (3 : Int32), .int s_p0_lineCount, .int (0 : Int32)]) (rest := []) 3 0 (c_X5_begin (l := vl E) (D := vD E) (T := T) (o_p0 := o_p1) (a_p0 := a_p1) (s_p0_there := s_p1_there) (s_p0_kind := s_p1_kind) (s_p0_tag := s_p1_tag) (s_p0_size := s_p1_size) (s_p0_lineCount := s_p1_lineCount) (s_p0_near := s_p1_near) (s_p0_through := s_p1_through) (x_1 := (3 : Int32)) (x_2 := s_p0_lineCount) (x_3 := (0 : Int32)) h) gX1_makeTurned_X5_begin rfl rfl (by decide +kernel) ⟨Nat.zero_le _, Nat.zero_le _⟩ ⟨rfl, rfl, by decide, by decide⟩ (Nat.le_of_ble_eq_true rfl) rfl rfl (wr := [vO o_p0 2 [.ref (a_p0 0), .ref (a_p0 1), .ref (a_p0 2), .int s_p0_there, .int s_p0_kind, .int s_p0_tag, .int s_p0_size, .int s_p0_lineCount], vJ T (a_p0 1) 45 s_p0_through, vJ T (a_p1 0) 45 s_p1_sets]) [2, 3, 5] [0, 1, 4] rfl rfl rfl rfl (by decide) rfl dX1_makeTurned_7 (fun u h => ?_)
  obtain ⟨u_7_0, u_7_1, u_7_2, u_7_3, u_7_4, u_7_5, u_7_6⟩ := u
  dsimp only at h
  refine v_ws (ws' := (cl_X1_makeTurned T o_p0 a_p0 o_p1 a_p1 s_p0_there s_p0_kind s_p0_tag s_p0_size s_p0_lineCount s_p0_through u_7_0 u_7_1 u_7_2 u_7_3 u_7_4 u_7_5 s_p1_sets u_7_6)) [0, 1, 3, 4, 2, 5] rfl rfl ?_
  refine v_iconst X dX1_makeTurned_10 (v := (0 : Int32)) (by decide) ?_
  refine v_istore_n X (lv' := [(2, .int (0 : Int32)), (0, .ref o_p0), (1, .ref o_p1)]) dX1_makeTurned_11 rfl (by decide) rfl ?_
  refine v_lv (lv' := [(0, .ref o_p0), (1, .ref o_p1), (2, .int (0 : Int32))]) [1, 2, 0] rfl ?_
  obtain ⟨n_, h⟩ := h
  exact k_X1_makeTurned_12 X r n_ _ _ _ _ _ h
-- X1_renumbered
abbrev cl_X1_renumbered (T : Nat → ClassId) : va_W := []
abbrev r_X1_renumbered (E : vE) (T : Nat → ClassId) (Q : Int64 → Prop) : Prop := vRl E cX1_renumbered (fun v (u : Unit) => Q v) (fun (u : Unit) => (cl_X1_renumbered T))
def w_X1_renumbered_46 (x_0 : Int64) (x_2 : Int64) (x_4 : Int64) (x_6 : Int32) (x_7 : Int32) (K_9 : (Int64) → (Int32) → (Int32) → Prop) (Q : Int64 → Prop) : Prop := (K_9 x_4 x_6 (x_7 + (1 : Int32)))
def w_X1_renumbered_43 (x_0 : Int64) (x_2 : Int64) (x_4 : Int64) (x_6 : Int32) (x_7 : Int32) (K_9 : (Int64) → (Int32) → (Int32) → Prop) (Q : Int64 → Prop) : Prop := (w_X1_renumbered_46 x_0 x_2 x_4 (x_6 + (1 : Int32)) x_7 K_9 Q)
def w_X1_renumbered_9s (x_0 : Int64) (x_2 : Int64) (Q : Int64 → Prop) (K_9 : (Int64) → (Int32) → (Int32) → Prop) (x_4 : Int64) (x_6 : Int32) (x_7 : Int32) : Prop := (((45 : Int32) ≤ x_7 → (Q x_4)) ∧ (¬ (45 : Int32) ≤ x_7 → (w_X6_has x_2 x_7 (fun (r_19 : Int32) => ((r_19 = 0 → (w_X1_renumbered_46 x_0 x_2 x_4 x_6 x_7 K_9 Q)) ∧ (¬ r_19 = 0 → (w_X6_has x_0 x_7 (fun (r_28 : Int32) => ((r_28 = 0 → (w_X1_renumbered_43 x_0 x_2 x_4 x_6 x_7 K_9 Q)) ∧ (¬ r_28 = 0 → (w_X1_renumbered_43 x_0 x_2 (x_4 ||| (vshl (1 : Int64) x_6)) x_6 x_7 K_9 Q)))))))))))
def w_X1_renumbered_9 (x_0 : Int64) (x_2 : Int64) (Q : Int64 → Prop) : Nat → (Int64) → (Int32) → (Int32) → Prop
  | 0 => fun _ _ _ => False
  | n_ + 1 => w_X1_renumbered_9s x_0 x_2 Q (w_X1_renumbered_9 x_0 x_2 Q n_)
def w_X1_renumbered (x_0 : Int64) (x_2 : Int64) (Q : Int64 → Prop) : Prop := (∃ n_, w_X1_renumbered_9 x_0 x_2 Q n_ (0 : Int64) (0 : Int32) (0 : Int32))
-- X1_renumbered
set_option maxHeartbeats 4000000 in
set_option maxRecDepth 100000 in
theorem k_X1_renumbered_46 {E : vE} {T : Nat → ClassId} {x_0 : Int64} {x_2 : Int64} {x_4 : Int64} {x_6 : Int32} {x_7 : Int32} {K_9 : (Int64) → (Int32) → (Int32) → Prop} {Q : Int64 → Prop} (X : vX E cX1_renumbered 8 RX1 wsX1_renumbered (vT T) (vr 1 22)) (r : r_X1_renumbered E T Q) (hK_9 : ∀ (x_4' : Int64) (x_6' : Int32) (x_7' : Int32), K_9 x_4' x_6' x_7' → V E 0 0 9 [(0, .long x_0), (2, .long x_2), (4, .long x_4'), (6, .int x_6'), (7, .int x_7')] [] (cl_X1_renumbered T)) (h : w_X1_renumbered_46 x_0 x_2 x_4 x_6 x_7 K_9 Q) : V E 0 0 46 [(0, .long x_0), (2, .long x_2), (4, .long x_4), (6, .int x_6), (7, .int x_7)] [] (cl_X1_renumbered T) := by
  unfold w_X1_renumbered_46 at h
  refine v_iinc X (v := (x_7 + (1 : Int32))) (lv' := [(7, .int (x_7 + (1 : Int32))), (0, .long x_0), (2, .long x_2), (4, .long x_4), (6, .int x_6)]) 4 dX1_renumbered_46 rfl rfl (by decide) rfl ?_
  refine v_goto X (tgt := 9) dX1_renumbered_49 (by decide) ?_
  refine v_lv (lv' := [(0, .long x_0), (2, .long x_2), (4, .long x_4), (6, .int x_6), (7, .int (x_7 + (1 : Int32)))]) [1, 2, 3, 4, 0] rfl ?_
  exact hK_9 _ _ _ h
set_option maxHeartbeats 4000000 in
set_option maxRecDepth 100000 in
theorem k_X1_renumbered_43 {E : vE} {T : Nat → ClassId} {x_0 : Int64} {x_2 : Int64} {x_4 : Int64} {x_6 : Int32} {x_7 : Int32} {K_9 : (Int64) → (Int32) → (Int32) → Prop} {Q : Int64 → Prop} (X : vX E cX1_renumbered 8 RX1 wsX1_renumbered (vT T) (vr 1 22)) (r : r_X1_renumbered E T Q) (hK_9 : ∀ (x_4' : Int64) (x_6' : Int32) (x_7' : Int32), K_9 x_4' x_6' x_7' → V E 0 0 9 [(0, .long x_0), (2, .long x_2), (4, .long x_4'), (6, .int x_6'), (7, .int x_7')] [] (cl_X1_renumbered T)) (h : w_X1_renumbered_43 x_0 x_2 x_4 x_6 x_7 K_9 Q) : V E 0 0 43 [(0, .long x_0), (2, .long x_2), (4, .long x_4), (6, .int x_6), (7, .int x_7)] [] (cl_X1_renumbered T) := by
  unfold w_X1_renumbered_43 at h
  refine v_iinc X (v := (x_6 + (1 : Int32))) (lv' := [(6, .int (x_6 + (1 : Int32))), (0, .long x_0), (2, .long x_2), (4, .long x_4), (7, .int x_7)]) 3 dX1_renumbered_43 rfl rfl (by decide) rfl ?_
  refine v_lv (lv' := [(0, .long x_0), (2, .long x_2), (4, .long x_4), (6, .int (x_6 + (1 : Int32))), (7, .int x_7)]) [1, 2, 3, 0, 4] rfl ?_
  exact k_X1_renumbered_46 X r hK_9 h
set_option maxHeartbeats 4000000 in
set_option maxRecDepth 100000 in
theorem k_X1_renumbered_9 {E : vE} {T : Nat → ClassId} {x_0 : Int64} {x_2 : Int64} {Q : Int64 → Prop} (X : vX E cX1_renumbered 8 RX1 wsX1_renumbered (vT T) (vr 1 22)) (r : r_X1_renumbered E T Q) : ∀ (n_ : Nat) (x_4 : Int64) (x_6 : Int32) (x_7 : Int32), w_X1_renumbered_9 x_0 x_2 Q n_ x_4 x_6 x_7 → V E 0 0 9 [(0, .long x_0), (2, .long x_2), (4, .long x_4), (6, .int x_6), (7, .int x_7)] [] (cl_X1_renumbered T) := by
  intro n_
  induction n_ with
  | zero => intro x_4 x_6 x_7 h; exact h.elim
  | succ n_ hK_9 =>
    intro x_4 x_6 x_7 h
    replace h : w_X1_renumbered_9s x_0 x_2 Q (w_X1_renumbered_9 x_0 x_2 Q n_) x_4 x_6 x_7 := h
    unfold w_X1_renumbered_9s at h
    refine v_iload X 4 dX1_renumbered_9 rfl ?_
    refine v_bipush X dX1_renumbered_11 (v := (45 : Int32)) (by decide) ?_
    refine v_icmp_ge X (tgt := 52) dX1_renumbered_13 (by decide) (fun c_13 => ?_) (fun c_13 => ?_)
    · replace h := h.1 c_13
      refine v_lload X 2 dX1_renumbered_52 rfl ?_
      exact r _ _ _ () _ dX1_renumbered_54 h rfl
    · replace h := h.2 c_13
      refine v_lload_n X 1 dX1_renumbered_16 rfl rfl ?_
      refine v_iload X 4 dX1_renumbered_17 rfl ?_
      refine v_callNi0 X (As := [.long x_2, .int x_7]) (rest := []) 2 (c_X6_has (l := vl E) (D := vD E) (T := T) (x_0 := x_2) (x_2 := x_7) h) gX1_renumbered_X6_has_n65 (List.mem_of_getElem? (i := 40) rfl) (List.mem_of_getElem? (i := 2) rfl) (List.mem_of_getElem? (i := 1) rfl) rfl rfl (by decide +kernel) ⟨Nat.zero_le _, Nat.zero_le _⟩ ⟨rfl, rfl, by decide, by decide⟩ (Nat.le_of_ble_eq_true rfl) rfl dX1_renumbered_19 (fun r_19 h => ?_)
      refine v_if_eq X (tgt := 46) dX1_renumbered_22 (by decide) (fun c_22 => ?_) (fun c_22 => ?_)
      · replace h := h.1 c_22
        exact k_X1_renumbered_46 X r hK_9 h
      · replace h := h.2 c_22
        refine v_lload_n X 0 dX1_renumbered_25 rfl rfl ?_
        refine v_iload X 4 dX1_renumbered_26 rfl ?_
        refine v_callNi0 X (As := [.long x_0, .int x_7]) (rest := []) 2 (c_X6_has (l := vl E) (D := vD E) (T := T) (x_0 := x_0) (x_2 := x_7) h) gX1_renumbered_X6_has_n65 (List.mem_of_getElem? (i := 40) rfl) (List.mem_of_getElem? (i := 2) rfl) (List.mem_of_getElem? (i := 1) rfl) rfl rfl (by decide +kernel) ⟨Nat.zero_le _, Nat.zero_le _⟩ ⟨rfl, rfl, by decide, by decide⟩ (Nat.le_of_ble_eq_true rfl) rfl dX1_renumbered_28 (fun r_28 h => ?_)
        refine v_if_eq X (tgt := 43) dX1_renumbered_31 (by decide) (fun c_31 => ?_) (fun c_31 => ?_)
        · replace h := h.1 c_31
          exact k_X1_renumbered_43 X r hK_9 h
        · replace h := h.2 c_31
          refine v_lload X 2 dX1_renumbered_34 rfl ?_
          refine v_lconst X dX1_renumbered_36 (v := (1 : Int64)) (by decide) ?_
          refine v_iload X 3 dX1_renumbered_37 rfl ?_
          refine v_lshl X dX1_renumbered_39 ?_
          refine v_lor X dX1_renumbered_40 ?_
          refine v_lstore X (lv' := [(4, .long (x_4 ||| (vshl (1 : Int64) x_6))), (0, .long x_0), (2, .long x_2), (6, .int x_6), (7, .int x_7)]) dX1_renumbered_41 (by decide) rfl ?_
          refine v_lv (lv' := [(0, .long x_0), (2, .long x_2), (4, .long (x_4 ||| (vshl (1 : Int64) x_6))), (6, .int x_6), (7, .int x_7)]) [1, 2, 0, 3, 4] rfl ?_
          exact k_X1_renumbered_43 X r hK_9 h
set_option maxHeartbeats 4000000 in
set_option maxRecDepth 100000 in
theorem c_X1_renumbered {l : Launch} {D : va_G} {T : Nat → ClassId} {x_0 : Int64} {x_2 : Int64} {Q : Int64 → Prop} (h : w_X1_renumbered x_0 x_2 Q) : vCl l D (vT T) yX1_renumbered wsX1_renumbered (vr 1 22) [.long x_0, .long x_2] (cl_X1_renumbered T) (fun v (u : Unit) => Q v) (fun (u : Unit) => (cl_X1_renumbered T)) := by
  refine vC_l (cc := cX1_renumbered) (nL := 8) (by decide +kernel) rfl ⟨rfl, rfl⟩ (Nat.le_of_ble_eq_true rfl) rfl ?_
  intro E el eD X r
  unfold w_X1_renumbered at h
  refine v_lconst X dX1_renumbered_0 (v := (0 : Int64)) (by decide) ?_
  refine v_lstore X (lv' := [(4, .long (0 : Int64)), (0, .long x_0), (2, .long x_2)]) dX1_renumbered_1 (by decide) rfl ?_
  refine v_iconst X dX1_renumbered_3 (v := (0 : Int32)) (by decide) ?_
  refine v_istore X (lv' := [(6, .int (0 : Int32)), (4, .long (0 : Int64)), (0, .long x_0), (2, .long x_2)]) dX1_renumbered_4 (by decide) rfl ?_
  refine v_iconst X dX1_renumbered_6 (v := (0 : Int32)) (by decide) ?_
  refine v_istore X (lv' := [(7, .int (0 : Int32)), (6, .int (0 : Int32)), (4, .long (0 : Int64)), (0, .long x_0), (2, .long x_2)]) dX1_renumbered_7 (by decide) rfl ?_
  refine v_lv (lv' := [(0, .long x_0), (2, .long x_2), (4, .long (0 : Int64)), (6, .int (0 : Int32)), (7, .int (0 : Int32))]) [3, 4, 2, 1, 0] rfl ?_
  obtain ⟨n_, h⟩ := h
  exact k_X1_renumbered_9 X r n_ _ _ _ h
-- X1_makeAbout
abbrev cl_X1_makeAbout (T : Nat → ClassId) (o_p0 : Nat) (a_p0 : Nat → Nat) (o_p2 : Nat) (a_p2 : Nat → Nat) (s_p0_there : Int32) (s_p0_kind : Int32) (s_p0_tag : Int32) (s_p0_size : Int32) (s_p0_lineCount : Int32) (s_p0_near : Nat → Int64) (s_p0_sets : Nat → Int64) (s_p2_there : Int32) (s_p2_kind : Int32) (s_p2_tag : Int32) (s_p2_size : Int32) (s_p2_lineCount : Int32) (s_p2_near : Nat → Int64) (s_p2_sets : Nat → Int64) (s_p2_through : Nat → Int64) : va_W := [vO o_p0 2 [.ref (a_p0 0), .ref (a_p0 1), .ref (a_p0 2), .int s_p0_there, .int s_p0_kind, .int s_p0_tag, .int s_p0_size, .int s_p0_lineCount], vJ T (a_p0 2) 45 s_p0_near, vJ T (a_p0 0) 45 s_p0_sets, vO o_p2 2 [.ref (a_p2 0), .ref (a_p2 1), .ref (a_p2 2), .int s_p2_there, .int s_p2_kind, .int s_p2_tag, .int s_p2_size, .int s_p2_lineCount], vJ T (a_p2 2) 45 s_p2_near, vJ T (a_p2 0) 45 s_p2_sets, vJ T (a_p2 1) 45 s_p2_through]
abbrev r_X1_makeAbout (E : vE) (T : Nat → ClassId) (o_p0 : Nat) (a_p0 : Nat → Nat) (o_p2 : Nat) (a_p2 : Nat → Nat) (s_p0_there : Int32) (s_p0_kind : Int32) (s_p0_tag : Int32) (s_p0_size : Int32) (s_p0_lineCount : Int32) (s_p0_near : Nat → Int64) (s_p0_sets : Nat → Int64) (Q : Int32 → (Int32) → (Int32) → (Int32) → (Int32) → (Int32) → (Nat → Int64) → (Nat → Int64) → (Nat → Int64) → Prop) : Prop := vRz E cX1_makeAbout (fun v (u : (Int32) × (Int32) × (Int32) × (Int32) × (Int32) × (Nat → Int64) × (Nat → Int64) × (Nat → Int64)) => Q v u.1 u.2.1 u.2.2.1 u.2.2.2.1 u.2.2.2.2.1 u.2.2.2.2.2.1 u.2.2.2.2.2.2.1 u.2.2.2.2.2.2.2) (fun (u : (Int32) × (Int32) × (Int32) × (Int32) × (Int32) × (Nat → Int64) × (Nat → Int64) × (Nat → Int64)) => (cl_X1_makeAbout T o_p0 a_p0 o_p2 a_p2 s_p0_there s_p0_kind s_p0_tag s_p0_size s_p0_lineCount s_p0_near s_p0_sets u.1 u.2.1 u.2.2.1 u.2.2.2.1 u.2.2.2.2.1 u.2.2.2.2.2.1 u.2.2.2.2.2.2.1 u.2.2.2.2.2.2.2))
def w_X1_makeAbout_147 (x_1 : Int32) (x_3 : Int64) (x_5 : Int32) (s_p0_size : Int32) (s_p0_lineCount : Int32) (s_p0_near : Nat → Int64) (s_p0_sets : Nat → Int64) (s_p2_there : Int32) (s_p2_kind : Int32) (s_p2_tag : Int32) (s_p2_size : Int32) (s_p2_lineCount : Int32) (s_p2_near : Nat → Int64) (s_p2_sets : Nat → Int64) (s_p2_through : Nat → Int64) (K_84 : (Int32) → (Int32) → (Nat → Int64) → (Nat → Int64) → (Nat → Int64) → Prop) (Q : Int32 → (Int32) → (Int32) → (Int32) → (Int32) → (Int32) → (Nat → Int64) → (Nat → Int64) → (Nat → Int64) → Prop) : Prop := (K_84 (x_5 + (1 : Int32)) s_p2_lineCount s_p2_near s_p2_sets s_p2_through)
def w_X1_makeAbout_84s (x_1 : Int32) (x_3 : Int64) (s_p0_size : Int32) (s_p0_lineCount : Int32) (s_p0_near : Nat → Int64) (s_p0_sets : Nat → Int64) (s_p2_there : Int32) (s_p2_kind : Int32) (s_p2_tag : Int32) (s_p2_size : Int32) (Q : Int32 → (Int32) → (Int32) → (Int32) → (Int32) → (Int32) → (Nat → Int64) → (Nat → Int64) → (Nat → Int64) → Prop) (K_84 : (Int32) → (Int32) → (Nat → Int64) → (Nat → Int64) → (Nat → Int64) → Prop) (x_5 : Int32) (s_p2_lineCount : Int32) (s_p2_near : Nat → Int64) (s_p2_sets : Nat → Int64) (s_p2_through : Nat → Int64) : Prop := ((s_p0_size ≤ x_5 → (vz (1 : Int32) ∧ Q (1 : Int32) s_p2_there s_p2_kind s_p2_tag s_p2_size s_p2_lineCount s_p2_near s_p2_sets s_p2_through)) ∧ (¬ s_p0_size ≤ x_5 → (w_X6_has x_3 x_5 (fun (r_96 : Int32) => ((r_96 = 0 → (w_X1_makeAbout_147 x_1 x_3 x_5 s_p0_size s_p0_lineCount s_p0_near s_p0_sets s_p2_there s_p2_kind s_p2_tag s_p2_size s_p2_lineCount s_p2_near s_p2_sets s_p2_through K_84 Q)) ∧ (¬ r_96 = 0 → (w_X5_spanSet x_1 x_5 s_p0_size s_p0_near (fun (r_106 : Int64) => (w_X6_below x_5 (fun (r_123 : Int64) => ((¬ (lg_cmp ((r_106 &&& ((vshl (1 : Int64) x_1) ^^^ (-1 : Int64))) &&& r_123) (0 : Int64)) = 0 → (w_X1_makeAbout_147 x_1 x_3 x_5 s_p0_size s_p0_lineCount s_p0_near s_p0_sets s_p2_there s_p2_kind s_p2_tag s_p2_size s_p2_lineCount s_p2_near s_p2_sets s_p2_through K_84 Q)) ∧ ((lg_cmp ((r_106 &&& ((vshl (1 : Int64) x_1) ^^^ (-1 : Int64))) &&& r_123) (0 : Int64)) = 0 → (w_X1_renumbered (r_106 &&& ((vshl (1 : Int64) x_1) ^^^ (-1 : Int64))) x_3 (fun (r_136 : Int64) => (w_X5_add r_136 s_p2_size s_p2_lineCount s_p2_near s_p2_sets s_p2_through (fun (r_139 : Int32) (u_139_0 : Int32) (u_139_1 : Nat → Int64) (u_139_2 : Nat → Int64) (u_139_3 : Nat → Int64) => ((¬ r_139 = 0 → (w_X1_makeAbout_147 x_1 x_3 x_5 s_p0_size s_p0_lineCount s_p0_near s_p0_sets s_p2_there s_p2_kind s_p2_tag s_p2_size u_139_0 u_139_1 u_139_2 u_139_3 K_84 Q)) ∧ (r_139 = 0 → (vz (0 : Int32) ∧ Q (0 : Int32) s_p2_there s_p2_kind s_p2_tag s_p2_size u_139_0 u_139_1 u_139_2 u_139_3)))))))))))))))))))
def w_X1_makeAbout_84 (x_1 : Int32) (x_3 : Int64) (s_p0_size : Int32) (s_p0_lineCount : Int32) (s_p0_near : Nat → Int64) (s_p0_sets : Nat → Int64) (s_p2_there : Int32) (s_p2_kind : Int32) (s_p2_tag : Int32) (s_p2_size : Int32) (Q : Int32 → (Int32) → (Int32) → (Int32) → (Int32) → (Int32) → (Nat → Int64) → (Nat → Int64) → (Nat → Int64) → Prop) : Nat → (Int32) → (Int32) → (Nat → Int64) → (Nat → Int64) → (Nat → Int64) → Prop
  | 0 => fun _ _ _ _ _ => False
  | n_ + 1 => w_X1_makeAbout_84s x_1 x_3 s_p0_size s_p0_lineCount s_p0_near s_p0_sets s_p2_there s_p2_kind s_p2_tag s_p2_size Q (w_X1_makeAbout_84 x_1 x_3 s_p0_size s_p0_lineCount s_p0_near s_p0_sets s_p2_there s_p2_kind s_p2_tag s_p2_size Q n_)
def w_X1_makeAbout_75 (x_1 : Int32) (x_3 : Int64) (x_5 : Int32) (s_p0_size : Int32) (s_p0_lineCount : Int32) (s_p0_near : Nat → Int64) (s_p0_sets : Nat → Int64) (s_p2_there : Int32) (s_p2_kind : Int32) (s_p2_tag : Int32) (s_p2_size : Int32) (s_p2_lineCount : Int32) (s_p2_near : Nat → Int64) (s_p2_sets : Nat → Int64) (s_p2_through : Nat → Int64) (K_32 : (Int32) → (Int32) → (Nat → Int64) → (Nat → Int64) → (Nat → Int64) → Prop) (Q : Int32 → (Int32) → (Int32) → (Int32) → (Int32) → (Int32) → (Nat → Int64) → (Nat → Int64) → (Nat → Int64) → Prop) : Prop := (K_32 (x_5 + (1 : Int32)) s_p2_lineCount s_p2_near s_p2_sets s_p2_through)
def w_X1_makeAbout_32s (x_1 : Int32) (x_3 : Int64) (s_p0_size : Int32) (s_p0_lineCount : Int32) (s_p0_near : Nat → Int64) (s_p0_sets : Nat → Int64) (s_p2_there : Int32) (s_p2_kind : Int32) (s_p2_tag : Int32) (s_p2_size : Int32) (Q : Int32 → (Int32) → (Int32) → (Int32) → (Int32) → (Int32) → (Nat → Int64) → (Nat → Int64) → (Nat → Int64) → Prop) (K_32 : (Int32) → (Int32) → (Nat → Int64) → (Nat → Int64) → (Nat → Int64) → Prop) (x_5 : Int32) (s_p2_lineCount : Int32) (s_p2_near : Nat → Int64) (s_p2_sets : Nat → Int64) (s_p2_through : Nat → Int64) : Prop := ((s_p0_lineCount ≤ x_5 → (∃ n_, w_X1_makeAbout_84 x_1 x_3 s_p0_size s_p0_lineCount s_p0_near s_p0_sets s_p2_there s_p2_kind s_p2_tag s_p2_size Q n_ (0 : Int32) s_p2_lineCount s_p2_near s_p2_sets s_p2_through)) ∧ (¬ s_p0_lineCount ≤ x_5 → (vp_in x_5 45 ∧ (w_X6_has (s_p0_sets (x_5).toNatClampNeg) x_1 (fun (r_49 : Int32) => ((¬ r_49 = 0 → (w_X1_makeAbout_75 x_1 x_3 x_5 s_p0_size s_p0_lineCount s_p0_near s_p0_sets s_p2_there s_p2_kind s_p2_tag s_p2_size s_p2_lineCount s_p2_near s_p2_sets s_p2_through K_32 Q)) ∧ (r_49 = 0 → (vp_in x_5 45 ∧ (w_X1_renumbered (s_p0_sets (x_5).toNatClampNeg) x_3 (fun (r_64 : Int64) => (w_X5_add r_64 s_p2_size s_p2_lineCount s_p2_near s_p2_sets s_p2_through (fun (r_67 : Int32) (u_67_0 : Int32) (u_67_1 : Nat → Int64) (u_67_2 : Nat → Int64) (u_67_3 : Nat → Int64) => ((¬ r_67 = 0 → (w_X1_makeAbout_75 x_1 x_3 x_5 s_p0_size s_p0_lineCount s_p0_near s_p0_sets s_p2_there s_p2_kind s_p2_tag s_p2_size u_67_0 u_67_1 u_67_2 u_67_3 K_32 Q)) ∧ (r_67 = 0 → (vz (0 : Int32) ∧ Q (0 : Int32) s_p2_there s_p2_kind s_p2_tag s_p2_size u_67_0 u_67_1 u_67_2 u_67_3)))))))))))))))
def w_X1_makeAbout_32 (x_1 : Int32) (x_3 : Int64) (s_p0_size : Int32) (s_p0_lineCount : Int32) (s_p0_near : Nat → Int64) (s_p0_sets : Nat → Int64) (s_p2_there : Int32) (s_p2_kind : Int32) (s_p2_tag : Int32) (s_p2_size : Int32) (Q : Int32 → (Int32) → (Int32) → (Int32) → (Int32) → (Int32) → (Nat → Int64) → (Nat → Int64) → (Nat → Int64) → Prop) : Nat → (Int32) → (Int32) → (Nat → Int64) → (Nat → Int64) → (Nat → Int64) → Prop
  | 0 => fun _ _ _ _ _ => False
  | n_ + 1 => w_X1_makeAbout_32s x_1 x_3 s_p0_size s_p0_lineCount s_p0_near s_p0_sets s_p2_there s_p2_kind s_p2_tag s_p2_size Q (w_X1_makeAbout_32 x_1 x_3 s_p0_size s_p0_lineCount s_p0_near s_p0_sets s_p2_there s_p2_kind s_p2_tag s_p2_size Q n_)
def w_X1_makeAbout (x_1 : Int32) (s_p0_size : Int32) (s_p0_lineCount : Int32) (s_p0_near : Nat → Int64) (s_p0_sets : Nat → Int64) (s_p2_there : Int32) (s_p2_kind : Int32) (s_p2_tag : Int32) (s_p2_size : Int32) (s_p2_lineCount : Int32) (s_p2_near : Nat → Int64) (s_p2_sets : Nat → Int64) (s_p2_through : Nat → Int64) (Q : Int32 → (Int32) → (Int32) → (Int32) → (Int32) → (Int32) → (Nat → Int64) → (Nat → Int64) → (Nat → Int64) → Prop) : Prop := (w_X6_below s_p0_size (fun (r_4 : Int64) => (vp_in x_1 45 ∧ (w_J13_bitCount_95d88 (r_4 &&& ((s_p0_near (x_1).toNatClampNeg) ^^^ (-1 : Int64))) (fun (r_22 : Int32) => (w_X5_begin (3 : Int32) r_22 (0 : Int32) s_p2_there s_p2_kind s_p2_tag s_p2_size s_p2_lineCount s_p2_near s_p2_through (fun (u_26_0 : Int32) (u_26_1 : Int32) (u_26_2 : Int32) (u_26_3 : Int32) (u_26_4 : Int32) (u_26_5 : Nat → Int64) (u_26_6 : Nat → Int64) => (∃ n_, w_X1_makeAbout_32 x_1 (r_4 &&& ((s_p0_near (x_1).toNatClampNeg) ^^^ (-1 : Int64))) s_p0_size s_p0_lineCount s_p0_near s_p0_sets u_26_0 u_26_1 u_26_2 u_26_3 Q n_ (0 : Int32) u_26_4 u_26_5 s_p2_sets u_26_6))))))))
-- X1_makeAbout
theorem iX1_makeAbout_X5 : ∀ w ∈ wsX50, w ∈ wsX1_makeAbout := by decide +kernel
set_option maxHeartbeats 4000000 in
set_option maxRecDepth 100000 in
theorem k_X1_makeAbout_147 {E : vE} {T : Nat → ClassId} {o_p0 : Nat} {a_p0 : Nat → Nat} {o_p2 : Nat} {a_p2 : Nat → Nat} {s_p0_there : Int32} {s_p0_kind : Int32} {s_p0_tag : Int32} {s_p0_size : Int32} {s_p0_lineCount : Int32} {s_p0_near : Nat → Int64} {s_p0_sets : Nat → Int64} {s_p2_there : Int32} {s_p2_kind : Int32} {s_p2_tag : Int32} {s_p2_size : Int32} {s_p2_lineCount : Int32} {s_p2_near : Nat → Int64} {s_p2_sets : Nat → Int64} {s_p2_through : Nat → Int64} {x_1 : Int32} {x_3 : Int64} {x_5 : Int32} {K_84 : (Int32) → (Int32) → (Nat → Int64) → (Nat → Int64) → (Nat → Int64) → Prop} {Q : Int32 → (Int32) → (Int32) → (Int32) → (Int32) → (Int32) → (Nat → Int64) → (Nat → Int64) → (Nat → Int64) → Prop} (X : vX E cX1_makeAbout 8 RX1 wsX1_makeAbout (vT T) (vr 3 69)) (r : r_X1_makeAbout E T o_p0 a_p0 o_p2 a_p2 s_p0_there s_p0_kind s_p0_tag s_p0_size s_p0_lineCount s_p0_near s_p0_sets Q) (hK_84 : ∀ (x_5' : Int32) (s_p2_lineCount' : Int32) (s_p2_near' : Nat → Int64) (s_p2_sets' : Nat → Int64) (s_p2_through' : Nat → Int64), K_84 x_5' s_p2_lineCount' s_p2_near' s_p2_sets' s_p2_through' → V E 0 0 84 [(0, .ref o_p0), (1, .int x_1), (2, .ref o_p2), (3, .long x_3), (5, .int x_5')] [] (cl_X1_makeAbout T o_p0 a_p0 o_p2 a_p2 s_p0_there s_p0_kind s_p0_tag s_p0_size s_p0_lineCount s_p0_near s_p0_sets s_p2_there s_p2_kind s_p2_tag s_p2_size s_p2_lineCount' s_p2_near' s_p2_sets' s_p2_through')) (h : w_X1_makeAbout_147 x_1 x_3 x_5 s_p0_size s_p0_lineCount s_p0_near s_p0_sets s_p2_there s_p2_kind s_p2_tag s_p2_size s_p2_lineCount s_p2_near s_p2_sets s_p2_through K_84 Q) : V E 0 0 147 [(0, .ref o_p0), (1, .int x_1), (2, .ref o_p2), (3, .long x_3), (5, .int x_5)] [] (cl_X1_makeAbout T o_p0 a_p0 o_p2 a_p2 s_p0_there s_p0_kind s_p0_tag s_p0_size s_p0_lineCount s_p0_near s_p0_sets s_p2_there s_p2_kind s_p2_tag s_p2_size s_p2_lineCount s_p2_near s_p2_sets s_p2_through) := by
  unfold w_X1_makeAbout_147 at h
  refine v_iinc X (v := (x_5 + (1 : Int32))) (lv' := [(5, .int (x_5 + (1 : Int32))), (0, .ref o_p0), (1, .int x_1), (2, .ref o_p2), (3, .long x_3)]) 4 dX1_makeAbout_147 rfl rfl (by decide) rfl ?_
  refine v_goto X (tgt := 84) dX1_makeAbout_150 (by decide) ?_
  refine v_lv (lv' := [(0, .ref o_p0), (1, .int x_1), (2, .ref o_p2), (3, .long x_3), (5, .int (x_5 + (1 : Int32)))]) [1, 2, 3, 4, 0] rfl ?_
  exact hK_84 _ _ _ _ _ h
set_option maxHeartbeats 4000000 in
set_option maxRecDepth 100000 in
theorem k_X1_makeAbout_84 {E : vE} {T : Nat → ClassId} {o_p0 : Nat} {a_p0 : Nat → Nat} {o_p2 : Nat} {a_p2 : Nat → Nat} {s_p0_there : Int32} {s_p0_kind : Int32} {s_p0_tag : Int32} {s_p0_size : Int32} {s_p0_lineCount : Int32} {s_p0_near : Nat → Int64} {s_p0_sets : Nat → Int64} {s_p2_there : Int32} {s_p2_kind : Int32} {s_p2_tag : Int32} {s_p2_size : Int32} {x_1 : Int32} {x_3 : Int64} {Q : Int32 → (Int32) → (Int32) → (Int32) → (Int32) → (Int32) → (Nat → Int64) → (Nat → Int64) → (Nat → Int64) → Prop} (X : vX E cX1_makeAbout 8 RX1 wsX1_makeAbout (vT T) (vr 3 69)) (r : r_X1_makeAbout E T o_p0 a_p0 o_p2 a_p2 s_p0_there s_p0_kind s_p0_tag s_p0_size s_p0_lineCount s_p0_near s_p0_sets Q) : ∀ (n_ : Nat) (x_5 : Int32) (s_p2_lineCount : Int32) (s_p2_near : Nat → Int64) (s_p2_sets : Nat → Int64) (s_p2_through : Nat → Int64), w_X1_makeAbout_84 x_1 x_3 s_p0_size s_p0_lineCount s_p0_near s_p0_sets s_p2_there s_p2_kind s_p2_tag s_p2_size Q n_ x_5 s_p2_lineCount s_p2_near s_p2_sets s_p2_through → V E 0 0 84 [(0, .ref o_p0), (1, .int x_1), (2, .ref o_p2), (3, .long x_3), (5, .int x_5)] [] (cl_X1_makeAbout T o_p0 a_p0 o_p2 a_p2 s_p0_there s_p0_kind s_p0_tag s_p0_size s_p0_lineCount s_p0_near s_p0_sets s_p2_there s_p2_kind s_p2_tag s_p2_size s_p2_lineCount s_p2_near s_p2_sets s_p2_through) := by
  intro n_
  induction n_ with
  | zero => intro x_5 s_p2_lineCount s_p2_near s_p2_sets s_p2_through h; exact h.elim
  | succ n_ hK_84 =>
    intro x_5 s_p2_lineCount s_p2_near s_p2_sets s_p2_through h
    replace h : w_X1_makeAbout_84s x_1 x_3 s_p0_size s_p0_lineCount s_p0_near s_p0_sets s_p2_there s_p2_kind s_p2_tag s_p2_size Q (w_X1_makeAbout_84 x_1 x_3 s_p0_size s_p0_lineCount s_p0_near s_p0_sets s_p2_there s_p2_kind s_p2_tag s_p2_size Q n_) x_5 s_p2_lineCount s_p2_near s_p2_sets s_p2_through := h
    unfold w_X1_makeAbout_84s at h
    refine v_iload X 4 dX1_makeAbout_84 rfl ?_
    refine v_aload_n X 0 dX1_makeAbout_86 rfl rfl ?_
    refine v_getN X 0 6 (F := TX5) (N := 8) iX1_makeAbout_X5 rfl rfl (by decide) (List.mem_of_getElem? (i := 28) rfl) rfl rfl dX1_makeAbout_87 ?_
    refine v_icmp_ge X (tgt := 153) dX1_makeAbout_90 (by decide) (fun c_90 => ?_) (fun c_90 => ?_)
    · replace h := h.1 c_90
      refine v_iconst X dX1_makeAbout_153 (v := (1 : Int32)) (by decide) ?_
      exact r _ _ _ (s_p2_there, s_p2_kind, s_p2_tag, s_p2_size, s_p2_lineCount, s_p2_near, s_p2_sets, s_p2_through) _ dX1_makeAbout_154 h.1 h.2 rfl
    · replace h := h.2 c_90
      refine v_lload_n X 3 dX1_makeAbout_93 rfl rfl ?_
      refine v_iload X 4 dX1_makeAbout_94 rfl ?_
      refine v_callNi0 X (As := [.long x_3, .int x_5]) (rest := []) 2 (c_X6_has (l := vl E) (D := vD E) (T := T) (x_0 := x_3) (x_2 := x_5) h) gX1_makeAbout_X6_has_n65 (List.mem_of_getElem? (i := 40) rfl) (List.mem_of_getElem? (i := 3) rfl) (List.mem_of_getElem? (i := 24) rfl) rfl rfl (by decide +kernel) ⟨Nat.zero_le _, Nat.zero_le _⟩ ⟨rfl, rfl, by decide, by decide⟩ (Nat.le_of_ble_eq_true rfl) rfl dX1_makeAbout_96 (fun r_96 h => ?_)
      refine v_if_eq X (tgt := 147) dX1_makeAbout_99 (by decide) (fun c_99 => ?_) (fun c_99 => ?_)
      · replace h := h.1 c_99
        exact k_X1_makeAbout_147 X r hK_84 h
      · replace h := h.2 c_99
        refine v_aload_n X 0 dX1_makeAbout_102 rfl rfl ?_
        refine v_iload_n X 1 dX1_makeAbout_103 rfl rfl ?_
        refine v_iload X 4 dX1_makeAbout_104 rfl ?_
        refine v_callVl X (As := [.int x_1, .int x_5]) (rest := []) 2 0 (c_X5_spanSet (l := vl E) (D := vD E) (T := T) (o_p0 := o_p0) (a_p0 := a_p0) (s_p0_there := s_p0_there) (s_p0_kind := s_p0_kind) (s_p0_tag := s_p0_tag) (s_p0_size := s_p0_size) (s_p0_lineCount := s_p0_lineCount) (s_p0_near := s_p0_near) (x_1 := x_1) (x_2 := x_5) h) gX1_makeAbout_X5_spanSet rfl rfl (by decide +kernel) ⟨Nat.zero_le _, Nat.zero_le _⟩ ⟨rfl, rfl, by decide, by decide⟩ (Nat.le_of_ble_eq_true rfl) rfl rfl (wr := [vJ T (a_p0 0) 45 s_p0_sets, vO o_p2 2 [.ref (a_p2 0), .ref (a_p2 1), .ref (a_p2 2), .int s_p2_there, .int s_p2_kind, .int s_p2_tag, .int s_p2_size, .int s_p2_lineCount], vJ T (a_p2 2) 45 s_p2_near, vJ T (a_p2 0) 45 s_p2_sets, vJ T (a_p2 1) 45 s_p2_through]) [0, 1] [2, 3, 4, 5, 6] rfl rfl rfl rfl (by decide) rfl dX1_makeAbout_106 (fun r_106 u h => ?_)
        refine v_ws (ws' := (cl_X1_makeAbout T o_p0 a_p0 o_p2 a_p2 s_p0_there s_p0_kind s_p0_tag s_p0_size s_p0_lineCount s_p0_near s_p0_sets s_p2_there s_p2_kind s_p2_tag s_p2_size s_p2_lineCount s_p2_near s_p2_sets s_p2_through)) [5, 6, 0, 1, 2, 3, 4] rfl rfl ?_
        refine v_lconst X dX1_makeAbout_109 (v := (1 : Int64)) (by decide) ?_
        refine v_iload_n X 1 dX1_makeAbout_110 rfl rfl ?_
        refine v_lshl X dX1_makeAbout_111 ?_
        refine v_ldc2 X (v := (-1 : Int64)) (List.mem_of_getElem? (i := 1) rfl) dX1_makeAbout_112 ?_
        refine v_lxor X dX1_makeAbout_115 ?_
        refine v_land X dX1_makeAbout_116 ?_
        refine v_lstore X (lv' := [(6, .long (r_106 &&& ((vshl (1 : Int64) x_1) ^^^ (-1 : Int64)))), (0, .ref o_p0), (1, .int x_1), (2, .ref o_p2), (3, .long x_3), (5, .int x_5)]) dX1_makeAbout_117 (by decide) rfl ?_
        refine v_lload X 0 dX1_makeAbout_119 rfl ?_
        refine v_iload X 5 dX1_makeAbout_121 rfl ?_
        refine v_callNl0 X (As := [.int x_5]) (rest := [.long (r_106 &&& ((vshl (1 : Int64) x_1) ^^^ (-1 : Int64)))]) 1 (c_X6_below (l := vl E) (D := vD E) (T := T) (x_0 := x_5) h) gX1_makeAbout_X6_below_n15 (List.mem_of_getElem? (i := 37) rfl) (List.mem_of_getElem? (i := 3) rfl) (List.mem_of_getElem? (i := 2) rfl) rfl rfl (by decide +kernel) ⟨Nat.zero_le _, Nat.zero_le _⟩ ⟨rfl, rfl, by decide, by decide⟩ (Nat.le_of_ble_eq_true rfl) rfl dX1_makeAbout_123 (fun r_123 h => ?_)
        refine v_land X dX1_makeAbout_126 ?_
        refine v_lconst X dX1_makeAbout_127 (v := (0 : Int64)) (by decide) ?_
        refine v_lcmp X dX1_makeAbout_128 ?_
        refine v_if_ne X (tgt := 147) dX1_makeAbout_129 (by decide) (fun c_129 => ?_) (fun c_129 => ?_)
        · replace h := h.1 c_129
          refine v_lv (lv' := [(0, .ref o_p0), (1, .int x_1), (2, .ref o_p2), (3, .long x_3), (5, .int x_5)]) [1, 2, 3, 4, 5] rfl ?_
          exact k_X1_makeAbout_147 X r hK_84 h
        · replace h := h.2 c_129
          refine v_aload_n X 3 dX1_makeAbout_132 rfl rfl ?_
          refine v_lload X 0 dX1_makeAbout_133 rfl ?_
          refine v_lload_n X 4 dX1_makeAbout_135 rfl rfl ?_
          refine v_callSl0 X (As := [.long (r_106 &&& ((vshl (1 : Int64) x_1) ^^^ (-1 : Int64))), .long x_3]) (rest := [.ref o_p2]) 2 (c_X1_renumbered (l := vl E) (D := vD E) (T := T) (x_0 := (r_106 &&& ((vshl (1 : Int64) x_1) ^^^ (-1 : Int64)))) (x_2 := x_3) h) gX1_makeAbout_X1_renumbered rfl rfl (by decide +kernel) ⟨Nat.zero_le _, Nat.zero_le _⟩ ⟨rfl, rfl, by decide, by decide⟩ (Nat.le_of_ble_eq_true rfl) rfl dX1_makeAbout_136 (fun r_136 h => ?_)
          refine v_callVi X (As := [.long r_136]) (rest := []) 1 0 (c_X5_add (l := vl E) (D := vD E) (T := T) (o_p0 := o_p2) (a_p0 := a_p2) (s_p0_there := s_p2_there) (s_p0_kind := s_p2_kind) (s_p0_tag := s_p2_tag) (s_p0_size := s_p2_size) (s_p0_lineCount := s_p2_lineCount) (s_p0_near := s_p2_near) (s_p0_sets := s_p2_sets) (s_p0_through := s_p2_through) (x_1 := r_136) h) gX1_makeAbout_X5_add rfl rfl (by decide +kernel) ⟨Nat.zero_le _, Nat.zero_le _⟩ ⟨rfl, rfl, by decide, by decide⟩ (Nat.le_of_ble_eq_true rfl) rfl rfl (wr := [vO o_p0 2 [.ref (a_p0 0), .ref (a_p0 1), .ref (a_p0 2), .int s_p0_there, .int s_p0_kind, .int s_p0_tag, .int s_p0_size, .int s_p0_lineCount], vJ T (a_p0 2) 45 s_p0_near, vJ T (a_p0 0) 45 s_p0_sets]) [3, 4, 5, 6] [0, 1, 2] rfl rfl rfl rfl (by decide) rfl dX1_makeAbout_139 (fun r_139 u h => ?_)
          obtain ⟨u_139_0, u_139_1, u_139_2, u_139_3⟩ := u
          dsimp only at h
          refine v_ws (ws' := (cl_X1_makeAbout T o_p0 a_p0 o_p2 a_p2 s_p0_there s_p0_kind s_p0_tag s_p0_size s_p0_lineCount s_p0_near s_p0_sets s_p2_there s_p2_kind s_p2_tag s_p2_size u_139_0 u_139_1 u_139_2 u_139_3)) [0, 1, 2, 3, 4, 5, 6] rfl rfl ?_
          refine v_if_ne X (tgt := 147) dX1_makeAbout_142 (by decide) (fun c_142 => ?_) (fun c_142 => ?_)
          · replace h := h.1 c_142
            refine v_lv (lv' := [(0, .ref o_p0), (1, .int x_1), (2, .ref o_p2), (3, .long x_3), (5, .int x_5)]) [1, 2, 3, 4, 5] rfl ?_
            exact k_X1_makeAbout_147 X r hK_84 h
          · replace h := h.2 c_142
            refine v_iconst X dX1_makeAbout_145 (v := (0 : Int32)) (by decide) ?_
            exact r _ _ _ (s_p2_there, s_p2_kind, s_p2_tag, s_p2_size, u_139_0, u_139_1, u_139_2, u_139_3) _ dX1_makeAbout_146 h.1 h.2 rfl
set_option maxHeartbeats 4000000 in
set_option maxRecDepth 100000 in
theorem k_X1_makeAbout_75 {E : vE} {T : Nat → ClassId} {o_p0 : Nat} {a_p0 : Nat → Nat} {o_p2 : Nat} {a_p2 : Nat → Nat} {s_p0_there : Int32} {s_p0_kind : Int32} {s_p0_tag : Int32} {s_p0_size : Int32} {s_p0_lineCount : Int32} {s_p0_near : Nat → Int64} {s_p0_sets : Nat → Int64} {s_p2_there : Int32} {s_p2_kind : Int32} {s_p2_tag : Int32} {s_p2_size : Int32} {s_p2_lineCount : Int32} {s_p2_near : Nat → Int64} {s_p2_sets : Nat → Int64} {s_p2_through : Nat → Int64} {x_1 : Int32} {x_3 : Int64} {x_5 : Int32} {K_32 : (Int32) → (Int32) → (Nat → Int64) → (Nat → Int64) → (Nat → Int64) → Prop} {Q : Int32 → (Int32) → (Int32) → (Int32) → (Int32) → (Int32) → (Nat → Int64) → (Nat → Int64) → (Nat → Int64) → Prop} (X : vX E cX1_makeAbout 8 RX1 wsX1_makeAbout (vT T) (vr 3 69)) (r : r_X1_makeAbout E T o_p0 a_p0 o_p2 a_p2 s_p0_there s_p0_kind s_p0_tag s_p0_size s_p0_lineCount s_p0_near s_p0_sets Q) (hK_32 : ∀ (x_5' : Int32) (s_p2_lineCount' : Int32) (s_p2_near' : Nat → Int64) (s_p2_sets' : Nat → Int64) (s_p2_through' : Nat → Int64), K_32 x_5' s_p2_lineCount' s_p2_near' s_p2_sets' s_p2_through' → V E 0 0 32 [(0, .ref o_p0), (1, .int x_1), (2, .ref o_p2), (3, .long x_3), (5, .int x_5')] [] (cl_X1_makeAbout T o_p0 a_p0 o_p2 a_p2 s_p0_there s_p0_kind s_p0_tag s_p0_size s_p0_lineCount s_p0_near s_p0_sets s_p2_there s_p2_kind s_p2_tag s_p2_size s_p2_lineCount' s_p2_near' s_p2_sets' s_p2_through')) (h : w_X1_makeAbout_75 x_1 x_3 x_5 s_p0_size s_p0_lineCount s_p0_near s_p0_sets s_p2_there s_p2_kind s_p2_tag s_p2_size s_p2_lineCount s_p2_near s_p2_sets s_p2_through K_32 Q) : V E 0 0 75 [(0, .ref o_p0), (1, .int x_1), (2, .ref o_p2), (3, .long x_3), (5, .int x_5)] [] (cl_X1_makeAbout T o_p0 a_p0 o_p2 a_p2 s_p0_there s_p0_kind s_p0_tag s_p0_size s_p0_lineCount s_p0_near s_p0_sets s_p2_there s_p2_kind s_p2_tag s_p2_size s_p2_lineCount s_p2_near s_p2_sets s_p2_through) := by
  unfold w_X1_makeAbout_75 at h
  refine v_iinc X (v := (x_5 + (1 : Int32))) (lv' := [(5, .int (x_5 + (1 : Int32))), (0, .ref o_p0), (1, .int x_1), (2, .ref o_p2), (3, .long x_3)]) 4 dX1_makeAbout_75 rfl rfl (by decide) rfl ?_
  refine v_goto X (tgt := 32) dX1_makeAbout_78 (by decide) ?_
  refine v_lv (lv' := [(0, .ref o_p0), (1, .int x_1), (2, .ref o_p2), (3, .long x_3), (5, .int (x_5 + (1 : Int32)))]) [1, 2, 3, 4, 0] rfl ?_
  exact hK_32 _ _ _ _ _ h
set_option maxHeartbeats 4000000 in
set_option maxRecDepth 100000 in
theorem k_X1_makeAbout_32 {E : vE} {T : Nat → ClassId} {o_p0 : Nat} {a_p0 : Nat → Nat} {o_p2 : Nat} {a_p2 : Nat → Nat} {s_p0_there : Int32} {s_p0_kind : Int32} {s_p0_tag : Int32} {s_p0_size : Int32} {s_p0_lineCount : Int32} {s_p0_near : Nat → Int64} {s_p0_sets : Nat → Int64} {s_p2_there : Int32} {s_p2_kind : Int32} {s_p2_tag : Int32} {s_p2_size : Int32} {x_1 : Int32} {x_3 : Int64} {Q : Int32 → (Int32) → (Int32) → (Int32) → (Int32) → (Int32) → (Nat → Int64) → (Nat → Int64) → (Nat → Int64) → Prop} (X : vX E cX1_makeAbout 8 RX1 wsX1_makeAbout (vT T) (vr 3 69)) (r : r_X1_makeAbout E T o_p0 a_p0 o_p2 a_p2 s_p0_there s_p0_kind s_p0_tag s_p0_size s_p0_lineCount s_p0_near s_p0_sets Q) : ∀ (n_ : Nat) (x_5 : Int32) (s_p2_lineCount : Int32) (s_p2_near : Nat → Int64) (s_p2_sets : Nat → Int64) (s_p2_through : Nat → Int64), w_X1_makeAbout_32 x_1 x_3 s_p0_size s_p0_lineCount s_p0_near s_p0_sets s_p2_there s_p2_kind s_p2_tag s_p2_size Q n_ x_5 s_p2_lineCount s_p2_near s_p2_sets s_p2_through → V E 0 0 32 [(0, .ref o_p0), (1, .int x_1), (2, .ref o_p2), (3, .long x_3), (5, .int x_5)] [] (cl_X1_makeAbout T o_p0 a_p0 o_p2 a_p2 s_p0_there s_p0_kind s_p0_tag s_p0_size s_p0_lineCount s_p0_near s_p0_sets s_p2_there s_p2_kind s_p2_tag s_p2_size s_p2_lineCount s_p2_near s_p2_sets s_p2_through) := by
  intro n_
  induction n_ with
  | zero => intro x_5 s_p2_lineCount s_p2_near s_p2_sets s_p2_through h; exact h.elim
  | succ n_ hK_32 =>
    intro x_5 s_p2_lineCount s_p2_near s_p2_sets s_p2_through h
    replace h : w_X1_makeAbout_32s x_1 x_3 s_p0_size s_p0_lineCount s_p0_near s_p0_sets s_p2_there s_p2_kind s_p2_tag s_p2_size Q (w_X1_makeAbout_32 x_1 x_3 s_p0_size s_p0_lineCount s_p0_near s_p0_sets s_p2_there s_p2_kind s_p2_tag s_p2_size Q n_) x_5 s_p2_lineCount s_p2_near s_p2_sets s_p2_through := h
    unfold w_X1_makeAbout_32s at h
    refine v_iload X 4 dX1_makeAbout_32 rfl ?_
    refine v_aload_n X 0 dX1_makeAbout_34 rfl rfl ?_
    refine v_getN X 0 7 (F := TX5) (N := 8) iX1_makeAbout_X5 rfl rfl (by decide) (List.mem_of_getElem? (i := 35) rfl) rfl rfl dX1_makeAbout_35 ?_
    refine v_icmp_ge X (tgt := 81) dX1_makeAbout_38 (by decide) (fun c_38 => ?_) (fun c_38 => ?_)
    · replace h := h.1 c_38
      refine v_iconst X dX1_makeAbout_81 (v := (0 : Int32)) (by decide) ?_
      refine v_istore X (lv' := [(5, .int (0 : Int32)), (0, .ref o_p0), (1, .int x_1), (2, .ref o_p2), (3, .long x_3)]) dX1_makeAbout_82 (by decide) rfl ?_
      refine v_lv (lv' := [(0, .ref o_p0), (1, .int x_1), (2, .ref o_p2), (3, .long x_3), (5, .int (0 : Int32))]) [1, 2, 3, 4, 0] rfl ?_
      obtain ⟨n_, h⟩ := h
      exact k_X1_makeAbout_84 X r n_ _ _ _ _ _ h
    · replace h := h.2 c_38
      refine v_aload_n X 0 dX1_makeAbout_41 rfl rfl ?_
      refine v_getN X 0 0 (F := TX5) (N := 8) iX1_makeAbout_X5 rfl rfl (by decide) (List.mem_of_getElem? (i := 14) rfl) rfl rfl dX1_makeAbout_42 ?_
      refine v_iload X 4 dX1_makeAbout_45 rfl ?_
      refine v_lald X 2 1 rfl rfl h.1 dX1_makeAbout_47 ?_
      replace h := h.2
      refine v_iload_n X 1 dX1_makeAbout_48 rfl rfl ?_
      refine v_callNi0 X (As := [.long (s_p0_sets (x_5).toNatClampNeg), .int x_1]) (rest := []) 2 (c_X6_has (l := vl E) (D := vD E) (T := T) (x_0 := (s_p0_sets (x_5).toNatClampNeg)) (x_2 := x_1) h) gX1_makeAbout_X6_has_n65 (List.mem_of_getElem? (i := 40) rfl) (List.mem_of_getElem? (i := 3) rfl) (List.mem_of_getElem? (i := 24) rfl) rfl rfl (by decide +kernel) ⟨Nat.zero_le _, Nat.zero_le _⟩ ⟨rfl, rfl, by decide, by decide⟩ (Nat.le_of_ble_eq_true rfl) rfl dX1_makeAbout_49 (fun r_49 h => ?_)
      refine v_if_ne X (tgt := 75) dX1_makeAbout_52 (by decide) (fun c_52 => ?_) (fun c_52 => ?_)
      · replace h := h.1 c_52
        exact k_X1_makeAbout_75 X r hK_32 h
      · replace h := h.2 c_52
        refine v_aload_n X 2 dX1_makeAbout_55 rfl rfl ?_
        refine v_aload_n X 0 dX1_makeAbout_56 rfl rfl ?_
        refine v_getN X 0 0 (F := TX5) (N := 8) iX1_makeAbout_X5 rfl rfl (by decide) (List.mem_of_getElem? (i := 14) rfl) rfl rfl dX1_makeAbout_57 ?_
        refine v_iload X 4 dX1_makeAbout_60 rfl ?_
        refine v_lald X 2 1 rfl rfl h.1 dX1_makeAbout_62 ?_
        replace h := h.2
        refine v_lload_n X 3 dX1_makeAbout_63 rfl rfl ?_
        refine v_callSl0 X (As := [.long (s_p0_sets (x_5).toNatClampNeg), .long x_3]) (rest := [.ref o_p2]) 2 (c_X1_renumbered (l := vl E) (D := vD E) (T := T) (x_0 := (s_p0_sets (x_5).toNatClampNeg)) (x_2 := x_3) h) gX1_makeAbout_X1_renumbered rfl rfl (by decide +kernel) ⟨Nat.zero_le _, Nat.zero_le _⟩ ⟨rfl, rfl, by decide, by decide⟩ (Nat.le_of_ble_eq_true rfl) rfl dX1_makeAbout_64 (fun r_64 h => ?_)
        refine v_callVi X (As := [.long r_64]) (rest := []) 1 0 (c_X5_add (l := vl E) (D := vD E) (T := T) (o_p0 := o_p2) (a_p0 := a_p2) (s_p0_there := s_p2_there) (s_p0_kind := s_p2_kind) (s_p0_tag := s_p2_tag) (s_p0_size := s_p2_size) (s_p0_lineCount := s_p2_lineCount) (s_p0_near := s_p2_near) (s_p0_sets := s_p2_sets) (s_p0_through := s_p2_through) (x_1 := r_64) h) gX1_makeAbout_X5_add rfl rfl (by decide +kernel) ⟨Nat.zero_le _, Nat.zero_le _⟩ ⟨rfl, rfl, by decide, by decide⟩ (Nat.le_of_ble_eq_true rfl) rfl rfl (wr := [vO o_p0 2 [.ref (a_p0 0), .ref (a_p0 1), .ref (a_p0 2), .int s_p0_there, .int s_p0_kind, .int s_p0_tag, .int s_p0_size, .int s_p0_lineCount], vJ T (a_p0 2) 45 s_p0_near, vJ T (a_p0 0) 45 s_p0_sets]) [3, 4, 5, 6] [0, 1, 2] rfl rfl rfl rfl (by decide) rfl dX1_makeAbout_67 (fun r_67 u h => ?_)
        obtain ⟨u_67_0, u_67_1, u_67_2, u_67_3⟩ := u
        dsimp only at h
        refine v_ws (ws' := (cl_X1_makeAbout T o_p0 a_p0 o_p2 a_p2 s_p0_there s_p0_kind s_p0_tag s_p0_size s_p0_lineCount s_p0_near s_p0_sets s_p2_there s_p2_kind s_p2_tag s_p2_size u_67_0 u_67_1 u_67_2 u_67_3)) [0, 1, 2, 3, 4, 5, 6] rfl rfl ?_
        refine v_if_ne X (tgt := 75) dX1_makeAbout_70 (by decide) (fun c_70 => ?_) (fun c_70 => ?_)
        · replace h := h.1 c_70
          exact k_X1_makeAbout_75 X r hK_32 h
        · replace h := h.2 c_70
          refine v_iconst X dX1_makeAbout_73 (v := (0 : Int32)) (by decide) ?_
          exact r _ _ _ (s_p2_there, s_p2_kind, s_p2_tag, s_p2_size, u_67_0, u_67_1, u_67_2, u_67_3) _ dX1_makeAbout_74 h.1 h.2 rfl
set_option maxHeartbeats 4000000 in
set_option maxRecDepth 100000 in
theorem c_X1_makeAbout {l : Launch} {D : va_G} {T : Nat → ClassId} {o_p0 : Nat} {a_p0 : Nat → Nat} {o_p2 : Nat} {a_p2 : Nat → Nat} {s_p0_there : Int32} {s_p0_kind : Int32} {s_p0_tag : Int32} {s_p0_size : Int32} {s_p0_lineCount : Int32} {s_p0_near : Nat → Int64} {s_p0_sets : Nat → Int64} {s_p2_there : Int32} {s_p2_kind : Int32} {s_p2_tag : Int32} {s_p2_size : Int32} {s_p2_lineCount : Int32} {s_p2_near : Nat → Int64} {s_p2_sets : Nat → Int64} {s_p2_through : Nat → Int64} {x_1 : Int32} {Q : Int32 → (Int32) → (Int32) → (Int32) → (Int32) → (Int32) → (Nat → Int64) → (Nat → Int64) → (Nat → Int64) → Prop} (h : w_X1_makeAbout x_1 s_p0_size s_p0_lineCount s_p0_near s_p0_sets s_p2_there s_p2_kind s_p2_tag s_p2_size s_p2_lineCount s_p2_near s_p2_sets s_p2_through Q) : vCi l D (vT T) yX1_makeAbout wsX1_makeAbout (vr 3 69) [.ref o_p0, .int x_1, .ref o_p2] (cl_X1_makeAbout T o_p0 a_p0 o_p2 a_p2 s_p0_there s_p0_kind s_p0_tag s_p0_size s_p0_lineCount s_p0_near s_p0_sets s_p2_there s_p2_kind s_p2_tag s_p2_size s_p2_lineCount s_p2_near s_p2_sets s_p2_through) (fun v (u : (Int32) × (Int32) × (Int32) × (Int32) × (Int32) × (Nat → Int64) × (Nat → Int64) × (Nat → Int64)) => Q v u.1 u.2.1 u.2.2.1 u.2.2.2.1 u.2.2.2.2.1 u.2.2.2.2.2.1 u.2.2.2.2.2.2.1 u.2.2.2.2.2.2.2) (fun (u : (Int32) × (Int32) × (Int32) × (Int32) × (Int32) × (Nat → Int64) × (Nat → Int64) × (Nat → Int64)) => (cl_X1_makeAbout T o_p0 a_p0 o_p2 a_p2 s_p0_there s_p0_kind s_p0_tag s_p0_size s_p0_lineCount s_p0_near s_p0_sets u.1 u.2.1 u.2.2.1 u.2.2.2.1 u.2.2.2.2.1 u.2.2.2.2.2.1 u.2.2.2.2.2.2.1 u.2.2.2.2.2.2.2)) := by
  refine vC_z (cc := cX1_makeAbout) (nL := 8) (by decide +kernel) rfl ⟨rfl, rfl⟩ (Nat.le_of_ble_eq_true rfl) rfl ?_
  intro E el eD X r
  unfold w_X1_makeAbout at h
  refine v_aload_n X 0 dX1_makeAbout_0 rfl rfl ?_
  refine v_getN X 0 6 (F := TX5) (N := 8) iX1_makeAbout_X5 rfl rfl (by decide) (List.mem_of_getElem? (i := 28) rfl) rfl rfl dX1_makeAbout_1 ?_
  refine v_callNl0 X (As := [.int s_p0_size]) (rest := []) 1 (c_X6_below (l := vl E) (D := vD E) (T := T) (x_0 := s_p0_size) h) gX1_makeAbout_X6_below_n15 (List.mem_of_getElem? (i := 37) rfl) (List.mem_of_getElem? (i := 3) rfl) (List.mem_of_getElem? (i := 2) rfl) rfl rfl (by decide +kernel) ⟨Nat.zero_le _, Nat.zero_le _⟩ ⟨rfl, rfl, by decide, by decide⟩ (Nat.le_of_ble_eq_true rfl) rfl dX1_makeAbout_4 (fun r_4 h => ?_)
  refine v_aload_n X 0 dX1_makeAbout_7 rfl rfl ?_
  refine v_getN X 0 2 (F := TX5) (N := 8) iX1_makeAbout_X5 rfl rfl (by decide) (List.mem_of_getElem? (i := 20) rfl) rfl rfl dX1_makeAbout_8 ?_
  refine v_iload_n X 1 dX1_makeAbout_11 rfl rfl ?_
  refine v_lald X 1 1 rfl rfl h.1 dX1_makeAbout_12 ?_
  replace h := h.2
  refine v_ldc2 X (v := (-1 : Int64)) (List.mem_of_getElem? (i := 1) rfl) dX1_makeAbout_13 ?_
  refine v_lxor X dX1_makeAbout_16 ?_
  refine v_land X dX1_makeAbout_17 ?_
  refine v_lstore_n X (lv' := [(3, .long (r_4 &&& ((s_p0_near (x_1).toNatClampNeg) ^^^ (-1 : Int64)))), (0, .ref o_p0), (1, .int x_1), (2, .ref o_p2)]) dX1_makeAbout_18 rfl (by decide) rfl ?_
  refine v_aload_n X 3 dX1_makeAbout_19 rfl rfl ?_
  refine v_iconst X dX1_makeAbout_20 (v := (3 : Int32)) (by decide) ?_
  refine v_lload_n X 0 dX1_makeAbout_21 rfl rfl ?_
  refine v_callSi0 X (As := [.long (r_4 &&& ((s_p0_near (x_1).toNatClampNeg) ^^^ (-1 : Int64)))]) (rest := [.int (3 : Int32), .ref o_p2]) 1 (c_J13_bitCount_95d88 (l := vl E) (D := vD E) (T := T) (x_0 := (r_4 &&& ((s_p0_near (x_1).toNatClampNeg) ^^^ (-1 : Int64)))) h) gX1_makeAbout_J13_bitCount_95d88 rfl rfl (by decide +kernel) ⟨Nat.zero_le _, Nat.zero_le _⟩ ⟨rfl, rfl, by decide, by decide⟩ (Nat.le_of_ble_eq_true rfl) rfl dX1_makeAbout_22 (fun r_22 h => ?_)
  refine v_iconst X dX1_makeAbout_25 (v := (0 : Int32)) (by decide) ?_
  refine v_callVv X (As := [.int (3 : Int32), .int r_22, .int (0 : Int32)]) (rest := []) 3 0 (c_X5_begin (l := vl E) (D := vD E) (T := T) (o_p0 := o_p2) (a_p0 := a_p2) (s_p0_there := s_p2_there) (s_p0_kind := s_p2_kind) (s_p0_tag := s_p2_tag) (s_p0_size := s_p2_size) (s_p0_lineCount := s_p2_lineCount) (s_p0_near := s_p2_near) (s_p0_through := s_p2_through) (x_1 := (3 : Int32)) (x_2 := r_22) (x_3 := (0 : Int32)) h) gX1_makeAbout_X5_begin rfl rfl (by decide +kernel) ⟨Nat.zero_le _, Nat.zero_le _⟩ ⟨rfl, rfl, by decide, by decide⟩ (Nat.le_of_ble_eq_true rfl) rfl rfl (wr := [vO o_p0 2 [.ref (a_p0 0), .ref (a_p0 1), .ref (a_p0 2), .int s_p0_there, .int s_p0_kind, .int s_p0_tag, .int s_p0_size, .int s_p0_lineCount], vJ T (a_p0 2) 45 s_p0_near, vJ T (a_p0 0) 45 s_p0_sets, vJ T (a_p2 0) 45 s_p2_sets]) [3, 4, 6] [0, 1, 2, 5] rfl rfl rfl rfl (by decide) rfl dX1_makeAbout_26 (fun u h => ?_)
  obtain ⟨u_26_0, u_26_1, u_26_2, u_26_3, u_26_4, u_26_5, u_26_6⟩ := u
  dsimp only at h
  refine v_ws (ws' := (cl_X1_makeAbout T o_p0 a_p0 o_p2 a_p2 s_p0_there s_p0_kind s_p0_tag s_p0_size s_p0_lineCount s_p0_near s_p0_sets u_26_0 u_26_1 u_26_2 u_26_3 u_26_4 u_26_5 s_p2_sets u_26_6)) [0, 1, 2, 4, 5, 3, 6] rfl rfl ?_
  refine v_iconst X dX1_makeAbout_29 (v := (0 : Int32)) (by decide) ?_
  refine v_istore X (lv' := [(5, .int (0 : Int32)), (3, .long (r_4 &&& ((s_p0_near (x_1).toNatClampNeg) ^^^ (-1 : Int64)))), (0, .ref o_p0), (1, .int x_1), (2, .ref o_p2)]) dX1_makeAbout_30 (by decide) rfl ?_
  refine v_lv (lv' := [(0, .ref o_p0), (1, .int x_1), (2, .ref o_p2), (3, .long (r_4 &&& ((s_p0_near (x_1).toNatClampNeg) ^^^ (-1 : Int64)))), (5, .int (0 : Int32))]) [2, 3, 4, 1, 0] rfl ?_
  obtain ⟨n_, h⟩ := h
  exact k_X1_makeAbout_32 X r n_ _ _ _ _ _ h
-- X1_makePart
abbrev cl_X1_makePart (T : Nat → ClassId) (o_p0 : Nat) (a_p0 : Nat → Nat) (o_p2 : Nat) (a_p2 : Nat → Nat) (s_p0_there : Int32) (s_p0_kind : Int32) (s_p0_tag : Int32) (s_p0_size : Int32) (s_p0_lineCount : Int32) (s_p0_sets : Nat → Int64) (s_p2_there : Int32) (s_p2_kind : Int32) (s_p2_tag : Int32) (s_p2_size : Int32) (s_p2_lineCount : Int32) (s_p2_near : Nat → Int64) (s_p2_sets : Nat → Int64) (s_p2_through : Nat → Int64) : va_W := [vO o_p0 2 [.ref (a_p0 0), .ref (a_p0 1), .ref (a_p0 2), .int s_p0_there, .int s_p0_kind, .int s_p0_tag, .int s_p0_size, .int s_p0_lineCount], vJ T (a_p0 0) 45 s_p0_sets, vO o_p2 2 [.ref (a_p2 0), .ref (a_p2 1), .ref (a_p2 2), .int s_p2_there, .int s_p2_kind, .int s_p2_tag, .int s_p2_size, .int s_p2_lineCount], vJ T (a_p2 2) 45 s_p2_near, vJ T (a_p2 0) 45 s_p2_sets, vJ T (a_p2 1) 45 s_p2_through]
abbrev r_X1_makePart (E : vE) (T : Nat → ClassId) (o_p0 : Nat) (a_p0 : Nat → Nat) (o_p2 : Nat) (a_p2 : Nat → Nat) (s_p0_there : Int32) (s_p0_kind : Int32) (s_p0_tag : Int32) (s_p0_size : Int32) (s_p0_lineCount : Int32) (s_p0_sets : Nat → Int64) (Q : (Int32) → (Int32) → (Int32) → (Int32) → (Int32) → (Nat → Int64) → (Nat → Int64) → (Nat → Int64) → Prop) : Prop := vRv E cX1_makePart (fun (u : (Int32) × (Int32) × (Int32) × (Int32) × (Int32) × (Nat → Int64) × (Nat → Int64) × (Nat → Int64)) => Q u.1 u.2.1 u.2.2.1 u.2.2.2.1 u.2.2.2.2.1 u.2.2.2.2.2.1 u.2.2.2.2.2.2.1 u.2.2.2.2.2.2.2) (fun (u : (Int32) × (Int32) × (Int32) × (Int32) × (Int32) × (Nat → Int64) × (Nat → Int64) × (Nat → Int64)) => (cl_X1_makePart T o_p0 a_p0 o_p2 a_p2 s_p0_there s_p0_kind s_p0_tag s_p0_size s_p0_lineCount s_p0_sets u.1 u.2.1 u.2.2.1 u.2.2.2.1 u.2.2.2.2.1 u.2.2.2.2.2.1 u.2.2.2.2.2.2.1 u.2.2.2.2.2.2.2))
def w_X1_makePart_54 (x_1 : Int64) (x_4 : Int32) (s_p0_lineCount : Int32) (s_p0_sets : Nat → Int64) (s_p2_there : Int32) (s_p2_kind : Int32) (s_p2_tag : Int32) (s_p2_size : Int32) (s_p2_lineCount : Int32) (s_p2_near : Nat → Int64) (s_p2_sets : Nat → Int64) (s_p2_through : Nat → Int64) (K_13 : (Int32) → (Int32) → (Nat → Int64) → (Nat → Int64) → (Nat → Int64) → Prop) (Q : (Int32) → (Int32) → (Int32) → (Int32) → (Int32) → (Nat → Int64) → (Nat → Int64) → (Nat → Int64) → Prop) : Prop := (K_13 (x_4 + (1 : Int32)) s_p2_lineCount s_p2_near s_p2_sets s_p2_through)
def w_X1_makePart_13s (x_1 : Int64) (s_p0_lineCount : Int32) (s_p0_sets : Nat → Int64) (s_p2_there : Int32) (s_p2_kind : Int32) (s_p2_tag : Int32) (s_p2_size : Int32) (Q : (Int32) → (Int32) → (Int32) → (Int32) → (Int32) → (Nat → Int64) → (Nat → Int64) → (Nat → Int64) → Prop) (K_13 : (Int32) → (Int32) → (Nat → Int64) → (Nat → Int64) → (Nat → Int64) → Prop) (x_4 : Int32) (s_p2_lineCount : Int32) (s_p2_near : Nat → Int64) (s_p2_sets : Nat → Int64) (s_p2_through : Nat → Int64) : Prop := ((s_p0_lineCount ≤ x_4 → (Q s_p2_there s_p2_kind s_p2_tag s_p2_size s_p2_lineCount s_p2_near s_p2_sets s_p2_through)) ∧ (¬ s_p0_lineCount ≤ x_4 → (vp_in x_4 45 ∧ (w_J13_bitCount_95d88 ((s_p0_sets (x_4).toNatClampNeg) &&& x_1) (fun (r_31 : Int32) => ((r_31 < (2 : Int32) → (w_X1_makePart_54 x_1 x_4 s_p0_lineCount s_p0_sets s_p2_there s_p2_kind s_p2_tag s_p2_size s_p2_lineCount s_p2_near s_p2_sets s_p2_through K_13 Q)) ∧ (¬ r_31 < (2 : Int32) → (vp_in x_4 45 ∧ (w_X1_renumbered (s_p0_sets (x_4).toNatClampNeg) x_1 (fun (r_47 : Int64) => (w_X5_add r_47 s_p2_size s_p2_lineCount s_p2_near s_p2_sets s_p2_through (fun (r_50 : Int32) (u_50_0 : Int32) (u_50_1 : Nat → Int64) (u_50_2 : Nat → Int64) (u_50_3 : Nat → Int64) => (w_X1_makePart_54 x_1 x_4 s_p0_lineCount s_p0_sets s_p2_there s_p2_kind s_p2_tag s_p2_size u_50_0 u_50_1 u_50_2 u_50_3 K_13 Q)))))))))))))
def w_X1_makePart_13 (x_1 : Int64) (s_p0_lineCount : Int32) (s_p0_sets : Nat → Int64) (s_p2_there : Int32) (s_p2_kind : Int32) (s_p2_tag : Int32) (s_p2_size : Int32) (Q : (Int32) → (Int32) → (Int32) → (Int32) → (Int32) → (Nat → Int64) → (Nat → Int64) → (Nat → Int64) → Prop) : Nat → (Int32) → (Int32) → (Nat → Int64) → (Nat → Int64) → (Nat → Int64) → Prop
  | 0 => fun _ _ _ _ _ => False
  | n_ + 1 => w_X1_makePart_13s x_1 s_p0_lineCount s_p0_sets s_p2_there s_p2_kind s_p2_tag s_p2_size Q (w_X1_makePart_13 x_1 s_p0_lineCount s_p0_sets s_p2_there s_p2_kind s_p2_tag s_p2_size Q n_)
def w_X1_makePart (x_1 : Int64) (s_p0_lineCount : Int32) (s_p0_sets : Nat → Int64) (s_p2_there : Int32) (s_p2_kind : Int32) (s_p2_tag : Int32) (s_p2_size : Int32) (s_p2_lineCount : Int32) (s_p2_near : Nat → Int64) (s_p2_sets : Nat → Int64) (s_p2_through : Nat → Int64) (Q : (Int32) → (Int32) → (Int32) → (Int32) → (Int32) → (Nat → Int64) → (Nat → Int64) → (Nat → Int64) → Prop) : Prop := (w_J13_bitCount_95d88 x_1 (fun (r_3 : Int32) => (w_X5_begin (3 : Int32) r_3 (0 : Int32) s_p2_there s_p2_kind s_p2_tag s_p2_size s_p2_lineCount s_p2_near s_p2_through (fun (u_7_0 : Int32) (u_7_1 : Int32) (u_7_2 : Int32) (u_7_3 : Int32) (u_7_4 : Int32) (u_7_5 : Nat → Int64) (u_7_6 : Nat → Int64) => (∃ n_, w_X1_makePart_13 x_1 s_p0_lineCount s_p0_sets u_7_0 u_7_1 u_7_2 u_7_3 Q n_ (0 : Int32) u_7_4 u_7_5 s_p2_sets u_7_6)))))
-- X1_makePart
theorem iX1_makePart_X5 : ∀ w ∈ wsX50, w ∈ wsX1_makePart := by decide +kernel
set_option maxHeartbeats 4000000 in
set_option maxRecDepth 100000 in
theorem k_X1_makePart_54 {E : vE} {T : Nat → ClassId} {o_p0 : Nat} {a_p0 : Nat → Nat} {o_p2 : Nat} {a_p2 : Nat → Nat} {s_p0_there : Int32} {s_p0_kind : Int32} {s_p0_tag : Int32} {s_p0_size : Int32} {s_p0_lineCount : Int32} {s_p0_sets : Nat → Int64} {s_p2_there : Int32} {s_p2_kind : Int32} {s_p2_tag : Int32} {s_p2_size : Int32} {s_p2_lineCount : Int32} {s_p2_near : Nat → Int64} {s_p2_sets : Nat → Int64} {s_p2_through : Nat → Int64} {x_1 : Int64} {x_4 : Int32} {K_13 : (Int32) → (Int32) → (Nat → Int64) → (Nat → Int64) → (Nat → Int64) → Prop} {Q : (Int32) → (Int32) → (Int32) → (Int32) → (Int32) → (Nat → Int64) → (Nat → Int64) → (Nat → Int64) → Prop} (X : vX E cX1_makePart 5 RX1 wsX1_makePart (vT T) (vr 2 49)) (r : r_X1_makePart E T o_p0 a_p0 o_p2 a_p2 s_p0_there s_p0_kind s_p0_tag s_p0_size s_p0_lineCount s_p0_sets Q) (hK_13 : ∀ (x_4' : Int32) (s_p2_lineCount' : Int32) (s_p2_near' : Nat → Int64) (s_p2_sets' : Nat → Int64) (s_p2_through' : Nat → Int64), K_13 x_4' s_p2_lineCount' s_p2_near' s_p2_sets' s_p2_through' → V E 0 0 13 [(0, .ref o_p0), (1, .long x_1), (3, .ref o_p2), (4, .int x_4')] [] (cl_X1_makePart T o_p0 a_p0 o_p2 a_p2 s_p0_there s_p0_kind s_p0_tag s_p0_size s_p0_lineCount s_p0_sets s_p2_there s_p2_kind s_p2_tag s_p2_size s_p2_lineCount' s_p2_near' s_p2_sets' s_p2_through')) (h : w_X1_makePart_54 x_1 x_4 s_p0_lineCount s_p0_sets s_p2_there s_p2_kind s_p2_tag s_p2_size s_p2_lineCount s_p2_near s_p2_sets s_p2_through K_13 Q) : V E 0 0 54 [(0, .ref o_p0), (1, .long x_1), (3, .ref o_p2), (4, .int x_4)] [] (cl_X1_makePart T o_p0 a_p0 o_p2 a_p2 s_p0_there s_p0_kind s_p0_tag s_p0_size s_p0_lineCount s_p0_sets s_p2_there s_p2_kind s_p2_tag s_p2_size s_p2_lineCount s_p2_near s_p2_sets s_p2_through) := by
  unfold w_X1_makePart_54 at h
  refine v_iinc X (v := (x_4 + (1 : Int32))) (lv' := [(4, .int (x_4 + (1 : Int32))), (0, .ref o_p0), (1, .long x_1), (3, .ref o_p2)]) 3 dX1_makePart_54 rfl rfl (by decide) rfl ?_
  refine v_goto X (tgt := 13) dX1_makePart_57 (by decide) ?_
  refine v_lv (lv' := [(0, .ref o_p0), (1, .long x_1), (3, .ref o_p2), (4, .int (x_4 + (1 : Int32)))]) [1, 2, 3, 0] rfl ?_
  exact hK_13 _ _ _ _ _ h
set_option maxHeartbeats 4000000 in
set_option maxRecDepth 100000 in
theorem k_X1_makePart_13 {E : vE} {T : Nat → ClassId} {o_p0 : Nat} {a_p0 : Nat → Nat} {o_p2 : Nat} {a_p2 : Nat → Nat} {s_p0_there : Int32} {s_p0_kind : Int32} {s_p0_tag : Int32} {s_p0_size : Int32} {s_p0_lineCount : Int32} {s_p0_sets : Nat → Int64} {s_p2_there : Int32} {s_p2_kind : Int32} {s_p2_tag : Int32} {s_p2_size : Int32} {x_1 : Int64} {Q : (Int32) → (Int32) → (Int32) → (Int32) → (Int32) → (Nat → Int64) → (Nat → Int64) → (Nat → Int64) → Prop} (X : vX E cX1_makePart 5 RX1 wsX1_makePart (vT T) (vr 2 49)) (r : r_X1_makePart E T o_p0 a_p0 o_p2 a_p2 s_p0_there s_p0_kind s_p0_tag s_p0_size s_p0_lineCount s_p0_sets Q) : ∀ (n_ : Nat) (x_4 : Int32) (s_p2_lineCount : Int32) (s_p2_near : Nat → Int64) (s_p2_sets : Nat → Int64) (s_p2_through : Nat → Int64), w_X1_makePart_13 x_1 s_p0_lineCount s_p0_sets s_p2_there s_p2_kind s_p2_tag s_p2_size Q n_ x_4 s_p2_lineCount s_p2_near s_p2_sets s_p2_through → V E 0 0 13 [(0, .ref o_p0), (1, .long x_1), (3, .ref o_p2), (4, .int x_4)] [] (cl_X1_makePart T o_p0 a_p0 o_p2 a_p2 s_p0_there s_p0_kind s_p0_tag s_p0_size s_p0_lineCount s_p0_sets s_p2_there s_p2_kind s_p2_tag s_p2_size s_p2_lineCount s_p2_near s_p2_sets s_p2_through) := by
  intro n_
  induction n_ with
  | zero => intro x_4 s_p2_lineCount s_p2_near s_p2_sets s_p2_through h; exact h.elim
  | succ n_ hK_13 =>
    intro x_4 s_p2_lineCount s_p2_near s_p2_sets s_p2_through h
    replace h : w_X1_makePart_13s x_1 s_p0_lineCount s_p0_sets s_p2_there s_p2_kind s_p2_tag s_p2_size Q (w_X1_makePart_13 x_1 s_p0_lineCount s_p0_sets s_p2_there s_p2_kind s_p2_tag s_p2_size Q n_) x_4 s_p2_lineCount s_p2_near s_p2_sets s_p2_through := h
    unfold w_X1_makePart_13s at h
    refine v_iload X 3 dX1_makePart_13 rfl ?_
    refine v_aload_n X 0 dX1_makePart_15 rfl rfl ?_
    refine v_getN X 0 7 (F := TX5) (N := 8) iX1_makePart_X5 rfl rfl (by decide) (List.mem_of_getElem? (i := 35) rfl) rfl rfl dX1_makePart_16 ?_
    refine v_icmp_ge X (tgt := 60) dX1_makePart_19 (by decide) (fun c_19 => ?_) (fun c_19 => ?_)
    · replace h := h.1 c_19
      exact r _ _ (s_p2_there, s_p2_kind, s_p2_tag, s_p2_size, s_p2_lineCount, s_p2_near, s_p2_sets, s_p2_through) _ dX1_makePart_60 h rfl
    · replace h := h.2 c_19
      refine v_aload_n X 0 dX1_makePart_22 rfl rfl ?_
      refine v_getN X 0 0 (F := TX5) (N := 8) iX1_makePart_X5 rfl rfl (by decide) (List.mem_of_getElem? (i := 14) rfl) rfl rfl dX1_makePart_23 ?_
      refine v_iload X 3 dX1_makePart_26 rfl ?_
      refine v_lald X 1 1 rfl rfl h.1 dX1_makePart_28 ?_
      replace h := h.2
      refine v_lload_n X 1 dX1_makePart_29 rfl rfl ?_
      refine v_land X dX1_makePart_30 ?_
      refine v_callSi0 X (As := [.long ((s_p0_sets (x_4).toNatClampNeg) &&& x_1)]) (rest := []) 1 (c_J13_bitCount_95d88 (l := vl E) (D := vD E) (T := T) (x_0 := ((s_p0_sets (x_4).toNatClampNeg) &&& x_1)) h) gX1_makePart_J13_bitCount_95d88 rfl rfl (by decide +kernel) ⟨Nat.zero_le _, Nat.zero_le _⟩ ⟨rfl, rfl, by decide, by decide⟩ (Nat.le_of_ble_eq_true rfl) rfl dX1_makePart_31 (fun r_31 h => ?_)
      refine v_iconst X dX1_makePart_34 (v := (2 : Int32)) (by decide) ?_
      refine v_icmp_lt X (tgt := 54) dX1_makePart_35 (by decide) (fun c_35 => ?_) (fun c_35 => ?_)
      · replace h := h.1 c_35
        exact k_X1_makePart_54 X r hK_13 h
      · replace h := h.2 c_35
        refine v_aload_n X 2 dX1_makePart_38 rfl rfl ?_
        refine v_aload_n X 0 dX1_makePart_39 rfl rfl ?_
        refine v_getN X 0 0 (F := TX5) (N := 8) iX1_makePart_X5 rfl rfl (by decide) (List.mem_of_getElem? (i := 14) rfl) rfl rfl dX1_makePart_40 ?_
        refine v_iload X 3 dX1_makePart_43 rfl ?_
        refine v_lald X 1 1 rfl rfl h.1 dX1_makePart_45 ?_
        replace h := h.2
        refine v_lload_n X 1 dX1_makePart_46 rfl rfl ?_
        refine v_callSl0 X (As := [.long (s_p0_sets (x_4).toNatClampNeg), .long x_1]) (rest := [.ref o_p2]) 2 (c_X1_renumbered (l := vl E) (D := vD E) (T := T) (x_0 := (s_p0_sets (x_4).toNatClampNeg)) (x_2 := x_1) h) gX1_makePart_X1_renumbered rfl rfl (by decide +kernel) ⟨Nat.zero_le _, Nat.zero_le _⟩ ⟨rfl, rfl, by decide, by decide⟩ (Nat.le_of_ble_eq_true rfl) rfl dX1_makePart_47 (fun r_47 h => ?_)
        refine v_callVi X (As := [.long r_47]) (rest := []) 1 0 (c_X5_add (l := vl E) (D := vD E) (T := T) (o_p0 := o_p2) (a_p0 := a_p2) (s_p0_there := s_p2_there) (s_p0_kind := s_p2_kind) (s_p0_tag := s_p2_tag) (s_p0_size := s_p2_size) (s_p0_lineCount := s_p2_lineCount) (s_p0_near := s_p2_near) (s_p0_sets := s_p2_sets) (s_p0_through := s_p2_through) (x_1 := r_47) h) gX1_makePart_X5_add rfl rfl (by decide +kernel) ⟨Nat.zero_le _, Nat.zero_le _⟩ ⟨rfl, rfl, by decide, by decide⟩ (Nat.le_of_ble_eq_true rfl) rfl rfl (wr := [vO o_p0 2 [.ref (a_p0 0), .ref (a_p0 1), .ref (a_p0 2), .int s_p0_there, .int s_p0_kind, .int s_p0_tag, .int s_p0_size, .int s_p0_lineCount], vJ T (a_p0 0) 45 s_p0_sets]) [2, 3, 4, 5] [0, 1] rfl rfl rfl rfl (by decide) rfl dX1_makePart_50 (fun r_50 u h => ?_)
        obtain ⟨u_50_0, u_50_1, u_50_2, u_50_3⟩ := u
        dsimp only at h
        refine v_ws (ws' := (cl_X1_makePart T o_p0 a_p0 o_p2 a_p2 s_p0_there s_p0_kind s_p0_tag s_p0_size s_p0_lineCount s_p0_sets s_p2_there s_p2_kind s_p2_tag s_p2_size u_50_0 u_50_1 u_50_2 u_50_3)) [0, 1, 2, 3, 4, 5] rfl rfl ?_
        refine v_pop X dX1_makePart_53 rfl ?_
        exact k_X1_makePart_54 X r hK_13 h
set_option maxHeartbeats 4000000 in
set_option maxRecDepth 100000 in
theorem c_X1_makePart {l : Launch} {D : va_G} {T : Nat → ClassId} {o_p0 : Nat} {a_p0 : Nat → Nat} {o_p2 : Nat} {a_p2 : Nat → Nat} {s_p0_there : Int32} {s_p0_kind : Int32} {s_p0_tag : Int32} {s_p0_size : Int32} {s_p0_lineCount : Int32} {s_p0_sets : Nat → Int64} {s_p2_there : Int32} {s_p2_kind : Int32} {s_p2_tag : Int32} {s_p2_size : Int32} {s_p2_lineCount : Int32} {s_p2_near : Nat → Int64} {s_p2_sets : Nat → Int64} {s_p2_through : Nat → Int64} {x_1 : Int64} {Q : (Int32) → (Int32) → (Int32) → (Int32) → (Int32) → (Nat → Int64) → (Nat → Int64) → (Nat → Int64) → Prop} (h : w_X1_makePart x_1 s_p0_lineCount s_p0_sets s_p2_there s_p2_kind s_p2_tag s_p2_size s_p2_lineCount s_p2_near s_p2_sets s_p2_through Q) : vCv l D (vT T) yX1_makePart wsX1_makePart (vr 2 49) [.ref o_p0, .long x_1, .ref o_p2] (cl_X1_makePart T o_p0 a_p0 o_p2 a_p2 s_p0_there s_p0_kind s_p0_tag s_p0_size s_p0_lineCount s_p0_sets s_p2_there s_p2_kind s_p2_tag s_p2_size s_p2_lineCount s_p2_near s_p2_sets s_p2_through) (fun (u : (Int32) × (Int32) × (Int32) × (Int32) × (Int32) × (Nat → Int64) × (Nat → Int64) × (Nat → Int64)) => Q u.1 u.2.1 u.2.2.1 u.2.2.2.1 u.2.2.2.2.1 u.2.2.2.2.2.1 u.2.2.2.2.2.2.1 u.2.2.2.2.2.2.2) (fun (u : (Int32) × (Int32) × (Int32) × (Int32) × (Int32) × (Nat → Int64) × (Nat → Int64) × (Nat → Int64)) => (cl_X1_makePart T o_p0 a_p0 o_p2 a_p2 s_p0_there s_p0_kind s_p0_tag s_p0_size s_p0_lineCount s_p0_sets u.1 u.2.1 u.2.2.1 u.2.2.2.1 u.2.2.2.2.1 u.2.2.2.2.2.1 u.2.2.2.2.2.2.1 u.2.2.2.2.2.2.2)) := by
  refine vC_v (cc := cX1_makePart) (nL := 5) (by decide +kernel) rfl ⟨rfl, rfl⟩ (Nat.le_of_ble_eq_true rfl) rfl ?_
  intro E el eD X r
  unfold w_X1_makePart at h
  refine v_aload_n X 2 dX1_makePart_0 rfl rfl ?_
  refine v_iconst X dX1_makePart_1 (v := (3 : Int32)) (by decide) ?_
  refine v_lload_n X 1 dX1_makePart_2 rfl rfl ?_
  refine v_callSi0 X (As := [.long x_1]) (rest := [.int (3 : Int32), .ref o_p2]) 1 (c_J13_bitCount_95d88 (l := vl E) (D := vD E) (T := T) (x_0 := x_1) h) gX1_makePart_J13_bitCount_95d88 rfl rfl (by decide +kernel) ⟨Nat.zero_le _, Nat.zero_le _⟩ ⟨rfl, rfl, by decide, by decide⟩ (Nat.le_of_ble_eq_true rfl) rfl dX1_makePart_3 (fun r_3 h => ?_)
  refine v_iconst X dX1_makePart_6 (v := (0 : Int32)) (by decide) ?_
  refine v_callVv X (As := [.int (3 : Int32), .int r_3, .int (0 : Int32)]) (rest := []) 3 0 (c_X5_begin (l := vl E) (D := vD E) (T := T) (o_p0 := o_p2) (a_p0 := a_p2) (s_p0_there := s_p2_there) (s_p0_kind := s_p2_kind) (s_p0_tag := s_p2_tag) (s_p0_size := s_p2_size) (s_p0_lineCount := s_p2_lineCount) (s_p0_near := s_p2_near) (s_p0_through := s_p2_through) (x_1 := (3 : Int32)) (x_2 := r_3) (x_3 := (0 : Int32)) h) gX1_makePart_X5_begin rfl rfl (by decide +kernel) ⟨Nat.zero_le _, Nat.zero_le _⟩ ⟨rfl, rfl, by decide, by decide⟩ (Nat.le_of_ble_eq_true rfl) rfl rfl (wr := [vO o_p0 2 [.ref (a_p0 0), .ref (a_p0 1), .ref (a_p0 2), .int s_p0_there, .int s_p0_kind, .int s_p0_tag, .int s_p0_size, .int s_p0_lineCount], vJ T (a_p0 0) 45 s_p0_sets, vJ T (a_p2 0) 45 s_p2_sets]) [2, 3, 5] [0, 1, 4] rfl rfl rfl rfl (by decide) rfl dX1_makePart_7 (fun u h => ?_)
  obtain ⟨u_7_0, u_7_1, u_7_2, u_7_3, u_7_4, u_7_5, u_7_6⟩ := u
  dsimp only at h
  refine v_ws (ws' := (cl_X1_makePart T o_p0 a_p0 o_p2 a_p2 s_p0_there s_p0_kind s_p0_tag s_p0_size s_p0_lineCount s_p0_sets u_7_0 u_7_1 u_7_2 u_7_3 u_7_4 u_7_5 s_p2_sets u_7_6)) [0, 1, 3, 4, 2, 5] rfl rfl ?_
  refine v_iconst X dX1_makePart_10 (v := (0 : Int32)) (by decide) ?_
  refine v_istore X (lv' := [(4, .int (0 : Int32)), (0, .ref o_p0), (1, .long x_1), (3, .ref o_p2)]) dX1_makePart_11 (by decide) rfl ?_
  refine v_lv (lv' := [(0, .ref o_p0), (1, .long x_1), (3, .ref o_p2), (4, .int (0 : Int32))]) [1, 2, 3, 0] rfl ?_
  obtain ⟨n_, h⟩ := h
  exact k_X1_makePart_13 X r n_ _ _ _ _ _ h
-- X3_inverseOf
abbrev cl_X3_inverseOf (T : Nat → ClassId) : va_W := []
abbrev r_X3_inverseOf (E : vE) (T : Nat → ClassId) (Q : Int32 → Prop) : Prop := vRi E cX3_inverseOf (fun v (u : Unit) => Q v) (fun (u : Unit) => (cl_X3_inverseOf T))
def w_X3_inverseOf_2s (x_0 : Int32) (x_1 : Int32) (Q : Int32 → Prop) (K_2 : (Int32) → Prop) (x_2 : Int32) : Prop := ((x_1 ≤ x_2 → (Q (1 : Int32))) ∧ (¬ x_1 ≤ x_2 → (¬ x_1 = 0 ∧ ((¬ (vrem (x_0 * x_2) x_1) = (1 : Int32) → (K_2 (x_2 + (1 : Int32)))) ∧ ((vrem (x_0 * x_2) x_1) = (1 : Int32) → (Q x_2))))))
def w_X3_inverseOf_2 (x_0 : Int32) (x_1 : Int32) (Q : Int32 → Prop) : Nat → (Int32) → Prop
  | 0 => fun _ => False
  | n_ + 1 => w_X3_inverseOf_2s x_0 x_1 Q (w_X3_inverseOf_2 x_0 x_1 Q n_)
def w_X3_inverseOf (x_0 : Int32) (x_1 : Int32) (Q : Int32 → Prop) : Prop := (∃ n_, w_X3_inverseOf_2 x_0 x_1 Q n_ (1 : Int32))
-- X3_inverseOf
set_option maxHeartbeats 4000000 in
set_option maxRecDepth 100000 in
theorem k_X3_inverseOf_2 {E : vE} {T : Nat → ClassId} {x_0 : Int32} {x_1 : Int32} {Q : Int32 → Prop} (X : vX E cX3_inverseOf 3 RX3 wsX3_inverseOf (vT T) (vr 0 0)) (r : r_X3_inverseOf E T Q) : ∀ (n_ : Nat) (x_2 : Int32), w_X3_inverseOf_2 x_0 x_1 Q n_ x_2 → V E 0 0 2 [(0, .int x_0), (1, .int x_1), (2, .int x_2)] [] (cl_X3_inverseOf T) := by
  intro n_
  induction n_ with
  | zero => intro x_2 h; exact h.elim
  | succ n_ hK_2 =>
    intro x_2 h
    replace h : w_X3_inverseOf_2s x_0 x_1 Q (w_X3_inverseOf_2 x_0 x_1 Q n_) x_2 := h
    unfold w_X3_inverseOf_2s at h
    refine v_iload_n X 2 dX3_inverseOf_2 rfl rfl ?_
    refine v_iload_n X 1 dX3_inverseOf_3 rfl rfl ?_
    refine v_icmp_ge X (tgt := 24) dX3_inverseOf_4 (by decide) (fun c_4 => ?_) (fun c_4 => ?_)
    · replace h := h.1 c_4
      refine v_iconst X dX3_inverseOf_24 (v := (1 : Int32)) (by decide) ?_
      exact r _ _ _ () _ dX3_inverseOf_25 h rfl
    · replace h := h.2 c_4
      refine v_iload_n X 0 dX3_inverseOf_7 rfl rfl ?_
      refine v_iload_n X 2 dX3_inverseOf_8 rfl rfl ?_
      refine v_imul X dX3_inverseOf_9 ?_
      refine v_iload_n X 1 dX3_inverseOf_10 rfl rfl ?_
      refine v_irem X dX3_inverseOf_11 h.1 ?_
      replace h := h.2
      refine v_iconst X dX3_inverseOf_12 (v := (1 : Int32)) (by decide) ?_
      refine v_icmp_ne X (tgt := 18) dX3_inverseOf_13 (by decide) (fun c_13 => ?_) (fun c_13 => ?_)
      · replace h := h.1 c_13
        refine v_iinc X (v := (x_2 + (1 : Int32))) (lv' := [(2, .int (x_2 + (1 : Int32))), (0, .int x_0), (1, .int x_1)]) 2 dX3_inverseOf_18 rfl rfl (by decide) rfl ?_
        refine v_goto X (tgt := 2) dX3_inverseOf_21 (by decide) ?_
        refine v_lv (lv' := [(0, .int x_0), (1, .int x_1), (2, .int (x_2 + (1 : Int32)))]) [1, 2, 0] rfl ?_
        exact hK_2 _ h
      · replace h := h.2 c_13
        refine v_iload_n X 2 dX3_inverseOf_16 rfl rfl ?_
        exact r _ _ _ () _ dX3_inverseOf_17 h rfl
set_option maxHeartbeats 4000000 in
set_option maxRecDepth 100000 in
theorem c_X3_inverseOf {l : Launch} {D : va_G} {T : Nat → ClassId} {x_0 : Int32} {x_1 : Int32} {Q : Int32 → Prop} (h : w_X3_inverseOf x_0 x_1 Q) : vCi l D (vT T) yX3_inverseOf wsX3_inverseOf (vr 0 0) [.int x_0, .int x_1] (cl_X3_inverseOf T) (fun v (u : Unit) => Q v) (fun (u : Unit) => (cl_X3_inverseOf T)) := by
  refine vC_i (cc := cX3_inverseOf) (nL := 3) (by decide +kernel) rfl ⟨rfl, rfl⟩ (Nat.le_of_ble_eq_true rfl) rfl ?_
  intro E el eD X r
  unfold w_X3_inverseOf at h
  refine v_iconst X dX3_inverseOf_0 (v := (1 : Int32)) (by decide) ?_
  refine v_istore_n X (lv' := [(2, .int (1 : Int32)), (0, .int x_0), (1, .int x_1)]) dX3_inverseOf_1 rfl (by decide) rfl ?_
  refine v_lv (lv' := [(0, .int x_0), (1, .int x_1), (2, .int (1 : Int32))]) [1, 2, 0] rfl ?_
  obtain ⟨n_, h⟩ := h
  exact k_X3_inverseOf_2 X r n_ _ h
-- X3_clearBelow
abbrev cl_X3_clearBelow (T : Nat → ClassId) (o_p0 : Nat) (o_p3 : Nat) (a_p3 : Nat → Nat) (s_p0 : Nat → Int32) (s_p3_there : Int32) (s_p3_kind : Int32) (s_p3_tag : Int32) (s_p3_size : Int32) (s_p3_lineCount : Int32) : va_W := [vI T o_p0 2025 s_p0, vO o_p3 2 [.ref (a_p3 0), .ref (a_p3 1), .ref (a_p3 2), .int s_p3_there, .int s_p3_kind, .int s_p3_tag, .int s_p3_size, .int s_p3_lineCount]]
abbrev r_X3_clearBelow (E : vE) (T : Nat → ClassId) (o_p0 : Nat) (o_p3 : Nat) (a_p3 : Nat → Nat) (s_p3_there : Int32) (s_p3_kind : Int32) (s_p3_tag : Int32) (s_p3_size : Int32) (s_p3_lineCount : Int32) (Q : (Nat → Int32) → Prop) : Prop := vRv E cX3_clearBelow (fun (u : (Nat → Int32)) => Q u) (fun (u : (Nat → Int32)) => (cl_X3_clearBelow T o_p0 o_p3 a_p3 u s_p3_there s_p3_kind s_p3_tag s_p3_size s_p3_lineCount))
def w_X3_clearBelow_111 (x_1 : Int32) (x_2 : Int32) (x_4 : Int32) (x_5 : Int32) (x_6 : Int32) (s_p0 : Nat → Int32) (s_p3_size : Int32) (s_p3_lineCount : Int32) (K_20 : (Int32) → (Nat → Int32) → Prop) (Q : (Nat → Int32) → Prop) : Prop := (K_20 (x_6 + (1 : Int32)) s_p0)
def w_X3_clearBelow_49s (x_1 : Int32) (x_2 : Int32) (x_4 : Int32) (x_5 : Int32) (x_6 : Int32) (x_7 : Int32) (s_p3_size : Int32) (s_p3_lineCount : Int32) (K_20 : (Int32) → (Nat → Int32) → Prop) (Q : (Nat → Int32) → Prop) (K_49 : (Int32) → (Nat → Int32) → Prop) (x_8 : Int32) (s_p0 : Nat → Int32) : Prop := ((x_7 = 0 → (w_X3_clearBelow_111 x_1 x_2 x_4 x_5 x_6 s_p0 s_p3_size s_p3_lineCount K_20 Q)) ∧ (¬ x_7 = 0 → ((s_p3_size ≤ x_8 → (w_X3_clearBelow_111 x_1 x_2 x_4 x_5 x_6 s_p0 s_p3_size s_p3_lineCount K_20 Q)) ∧ (¬ s_p3_size ≤ x_8 → (vp_in (((45 : Int32) * x_2) + x_8) 2025 ∧ (vp_in (((45 : Int32) * x_6) + x_8) 2025 ∧ (w_J9_floorMod_7cf53 ((s_p0 ((((45 : Int32) * x_6) + x_8)).toNatClampNeg) - (x_7 * (s_p0 ((((45 : Int32) * x_2) + x_8)).toNatClampNeg))) x_4 (fun (r_101 : Int32) => (vp_in (((45 : Int32) * x_6) + x_8) 2025 ∧ (K_49 (x_8 + (1 : Int32)) (upd s_p0 ((((45 : Int32) * x_6) + x_8)).toNatClampNeg r_101)))))))))))
def w_X3_clearBelow_49 (x_1 : Int32) (x_2 : Int32) (x_4 : Int32) (x_5 : Int32) (x_6 : Int32) (x_7 : Int32) (s_p3_size : Int32) (s_p3_lineCount : Int32) (K_20 : (Int32) → (Nat → Int32) → Prop) (Q : (Nat → Int32) → Prop) : Nat → (Int32) → (Nat → Int32) → Prop
  | 0 => fun _ _ => False
  | n_ + 1 => w_X3_clearBelow_49s x_1 x_2 x_4 x_5 x_6 x_7 s_p3_size s_p3_lineCount K_20 Q (w_X3_clearBelow_49 x_1 x_2 x_4 x_5 x_6 x_7 s_p3_size s_p3_lineCount K_20 Q n_)
def w_X3_clearBelow_20s (x_1 : Int32) (x_2 : Int32) (x_4 : Int32) (x_5 : Int32) (s_p3_size : Int32) (s_p3_lineCount : Int32) (Q : (Nat → Int32) → Prop) (K_20 : (Int32) → (Nat → Int32) → Prop) (x_6 : Int32) (s_p0 : Nat → Int32) : Prop := ((s_p3_lineCount ≤ x_6 → (Q s_p0)) ∧ (¬ s_p3_lineCount ≤ x_6 → (vp_in (((45 : Int32) * x_6) + x_1) 2025 ∧ (¬ x_4 = 0 ∧ (∃ n_, w_X3_clearBelow_49 x_1 x_2 x_4 x_5 x_6 (vrem ((s_p0 ((((45 : Int32) * x_6) + x_1)).toNatClampNeg) * x_5) x_4) s_p3_size s_p3_lineCount K_20 Q n_ x_1 s_p0)))))
def w_X3_clearBelow_20 (x_1 : Int32) (x_2 : Int32) (x_4 : Int32) (x_5 : Int32) (s_p3_size : Int32) (s_p3_lineCount : Int32) (Q : (Nat → Int32) → Prop) : Nat → (Int32) → (Nat → Int32) → Prop
  | 0 => fun _ _ => False
  | n_ + 1 => w_X3_clearBelow_20s x_1 x_2 x_4 x_5 s_p3_size s_p3_lineCount Q (w_X3_clearBelow_20 x_1 x_2 x_4 x_5 s_p3_size s_p3_lineCount Q n_)
def w_X3_clearBelow (x_1 : Int32) (x_2 : Int32) (x_4 : Int32) (s_p0 : Nat → Int32) (s_p3_size : Int32) (s_p3_lineCount : Int32) (Q : (Nat → Int32) → Prop) : Prop := (vp_in (((45 : Int32) * x_2) + x_1) 2025 ∧ (w_X3_inverseOf (s_p0 ((((45 : Int32) * x_2) + x_1)).toNatClampNeg) x_4 (fun (r_10 : Int32) => (∃ n_, w_X3_clearBelow_20 x_1 x_2 x_4 r_10 s_p3_size s_p3_lineCount Q n_ (x_2 + (1 : Int32)) s_p0))))
-- X3_clearBelow
theorem iX3_clearBelow_X5 : ∀ w ∈ wsX50, w ∈ wsX3_clearBelow := by decide +kernel
set_option maxHeartbeats 4000000 in
set_option maxRecDepth 100000 in
theorem k_X3_clearBelow_111 {E : vE} {T : Nat → ClassId} {o_p0 : Nat} {o_p3 : Nat} {a_p3 : Nat → Nat} {s_p0 : Nat → Int32} {s_p3_there : Int32} {s_p3_kind : Int32} {s_p3_tag : Int32} {s_p3_size : Int32} {s_p3_lineCount : Int32} {x_1 : Int32} {x_2 : Int32} {x_4 : Int32} {x_5 : Int32} {x_6 : Int32} {K_20 : (Int32) → (Nat → Int32) → Prop} {Q : (Nat → Int32) → Prop} (X : vX E cX3_clearBelow 10 RX3 wsX3_clearBelow (vT T) (vr 1 22)) (r : r_X3_clearBelow E T o_p0 o_p3 a_p3 s_p3_there s_p3_kind s_p3_tag s_p3_size s_p3_lineCount Q) (hK_20 : ∀ (x_6' : Int32) (s_p0' : Nat → Int32), K_20 x_6' s_p0' → V E 0 0 20 [(0, .ref o_p0), (1, .int x_1), (2, .int x_2), (3, .ref o_p3), (4, .int x_4), (5, .int x_5), (6, .int x_6')] [] (cl_X3_clearBelow T o_p0 o_p3 a_p3 s_p0' s_p3_there s_p3_kind s_p3_tag s_p3_size s_p3_lineCount)) (h : w_X3_clearBelow_111 x_1 x_2 x_4 x_5 x_6 s_p0 s_p3_size s_p3_lineCount K_20 Q) : V E 0 0 111 [(0, .ref o_p0), (1, .int x_1), (2, .int x_2), (3, .ref o_p3), (4, .int x_4), (5, .int x_5), (6, .int x_6)] [] (cl_X3_clearBelow T o_p0 o_p3 a_p3 s_p0 s_p3_there s_p3_kind s_p3_tag s_p3_size s_p3_lineCount) := by
  unfold w_X3_clearBelow_111 at h
  refine v_iinc X (v := (x_6 + (1 : Int32))) (lv' := [(6, .int (x_6 + (1 : Int32))), (0, .ref o_p0), (1, .int x_1), (2, .int x_2), (3, .ref o_p3), (4, .int x_4), (5, .int x_5)]) 6 dX3_clearBelow_111 rfl rfl (by decide) rfl ?_
  refine v_goto X (tgt := 20) dX3_clearBelow_114 (by decide) ?_
  refine v_lv (lv' := [(0, .ref o_p0), (1, .int x_1), (2, .int x_2), (3, .ref o_p3), (4, .int x_4), (5, .int x_5), (6, .int (x_6 + (1 : Int32)))]) [1, 2, 3, 4, 5, 6, 0] rfl ?_
  exact hK_20 _ _ h
set_option maxHeartbeats 4000000 in
set_option maxRecDepth 100000 in
theorem k_X3_clearBelow_49 {E : vE} {T : Nat → ClassId} {o_p0 : Nat} {o_p3 : Nat} {a_p3 : Nat → Nat} {s_p3_there : Int32} {s_p3_kind : Int32} {s_p3_tag : Int32} {s_p3_size : Int32} {s_p3_lineCount : Int32} {x_1 : Int32} {x_2 : Int32} {x_4 : Int32} {x_5 : Int32} {x_6 : Int32} {x_7 : Int32} {K_20 : (Int32) → (Nat → Int32) → Prop} {Q : (Nat → Int32) → Prop} (X : vX E cX3_clearBelow 10 RX3 wsX3_clearBelow (vT T) (vr 1 22)) (r : r_X3_clearBelow E T o_p0 o_p3 a_p3 s_p3_there s_p3_kind s_p3_tag s_p3_size s_p3_lineCount Q) (hK_20 : ∀ (x_6' : Int32) (s_p0' : Nat → Int32), K_20 x_6' s_p0' → V E 0 0 20 [(0, .ref o_p0), (1, .int x_1), (2, .int x_2), (3, .ref o_p3), (4, .int x_4), (5, .int x_5), (6, .int x_6')] [] (cl_X3_clearBelow T o_p0 o_p3 a_p3 s_p0' s_p3_there s_p3_kind s_p3_tag s_p3_size s_p3_lineCount)) : ∀ (n_ : Nat) (x_8 : Int32) (s_p0 : Nat → Int32), w_X3_clearBelow_49 x_1 x_2 x_4 x_5 x_6 x_7 s_p3_size s_p3_lineCount K_20 Q n_ x_8 s_p0 → V E 0 0 49 [(0, .ref o_p0), (1, .int x_1), (2, .int x_2), (3, .ref o_p3), (4, .int x_4), (5, .int x_5), (6, .int x_6), (7, .int x_7), (8, .int x_8)] [] (cl_X3_clearBelow T o_p0 o_p3 a_p3 s_p0 s_p3_there s_p3_kind s_p3_tag s_p3_size s_p3_lineCount) := by
  intro n_
  induction n_ with
  | zero => intro x_8 s_p0 h; exact h.elim
  | succ n_ hK_49 =>
    intro x_8 s_p0 h
    replace h : w_X3_clearBelow_49s x_1 x_2 x_4 x_5 x_6 x_7 s_p3_size s_p3_lineCount K_20 Q (w_X3_clearBelow_49 x_1 x_2 x_4 x_5 x_6 x_7 s_p3_size s_p3_lineCount K_20 Q n_) x_8 s_p0 := h
    unfold w_X3_clearBelow_49s at h
    refine v_iload X 7 dX3_clearBelow_49 rfl ?_
    refine v_if_eq X (tgt := 111) dX3_clearBelow_51 (by decide) (fun c_51 => ?_) (fun c_51 => ?_)
    · replace h := h.1 c_51
      refine v_lv (lv' := [(0, .ref o_p0), (1, .int x_1), (2, .int x_2), (3, .ref o_p3), (4, .int x_4), (5, .int x_5), (6, .int x_6)]) [0, 1, 2, 3, 4, 5, 6] rfl ?_
      exact k_X3_clearBelow_111 X r hK_20 h
    · replace h := h.2 c_51
      refine v_iload X 8 dX3_clearBelow_54 rfl ?_
      refine v_aload_n X 3 dX3_clearBelow_56 rfl rfl ?_
      refine v_getN X 1 6 (F := TX5) (N := 8) iX3_clearBelow_X5 rfl rfl (by decide) (List.mem_of_getElem? (i := 26) rfl) rfl rfl dX3_clearBelow_57 ?_
      refine v_icmp_ge X (tgt := 111) dX3_clearBelow_60 (by decide) (fun c_60 => ?_) (fun c_60 => ?_)
      · replace h := h.1 c_60
        refine v_lv (lv' := [(0, .ref o_p0), (1, .int x_1), (2, .int x_2), (3, .ref o_p3), (4, .int x_4), (5, .int x_5), (6, .int x_6)]) [0, 1, 2, 3, 4, 5, 6] rfl ?_
        exact k_X3_clearBelow_111 X r hK_20 h
      · replace h := h.2 c_60
        refine v_iload X 7 dX3_clearBelow_63 rfl ?_
        refine v_aload_n X 0 dX3_clearBelow_65 rfl rfl ?_
        refine v_bipush X dX3_clearBelow_66 (v := (45 : Int32)) (by decide) ?_
        refine v_iload_n X 2 dX3_clearBelow_68 rfl rfl ?_
        refine v_imul X dX3_clearBelow_69 ?_
        refine v_iload X 8 dX3_clearBelow_70 rfl ?_
        refine v_iadd X dX3_clearBelow_72 ?_
        refine v_iald X 0 0 rfl rfl h.1 dX3_clearBelow_73 ?_
        replace h := h.2
        refine v_imul X dX3_clearBelow_74 ?_
        refine v_istore X (lv' := [(9, .int (x_7 * (s_p0 ((((45 : Int32) * x_2) + x_8)).toNatClampNeg))), (0, .ref o_p0), (1, .int x_1), (2, .int x_2), (3, .ref o_p3), (4, .int x_4), (5, .int x_5), (6, .int x_6), (7, .int x_7), (8, .int x_8)]) dX3_clearBelow_75 (by decide) rfl ?_
        refine v_aload_n X 1 dX3_clearBelow_77 rfl rfl ?_
        refine v_bipush X dX3_clearBelow_78 (v := (45 : Int32)) (by decide) ?_
        refine v_iload X 7 dX3_clearBelow_80 rfl ?_
        refine v_imul X dX3_clearBelow_82 ?_
        refine v_iload X 9 dX3_clearBelow_83 rfl ?_
        refine v_iadd X dX3_clearBelow_85 ?_
        refine v_aload_n X 1 dX3_clearBelow_86 rfl rfl ?_
        refine v_bipush X dX3_clearBelow_87 (v := (45 : Int32)) (by decide) ?_
        refine v_iload X 7 dX3_clearBelow_89 rfl ?_
        refine v_imul X dX3_clearBelow_91 ?_
        refine v_iload X 9 dX3_clearBelow_92 rfl ?_
        refine v_iadd X dX3_clearBelow_94 ?_
        refine v_iald X 0 0 rfl rfl h.1 dX3_clearBelow_95 ?_
        replace h := h.2
        refine v_iload X 0 dX3_clearBelow_96 rfl ?_
        refine v_isub X dX3_clearBelow_98 ?_
        refine v_iload X 5 dX3_clearBelow_99 rfl ?_
        refine v_callSi0 X (As := [.int ((s_p0 ((((45 : Int32) * x_6) + x_8)).toNatClampNeg) - (x_7 * (s_p0 ((((45 : Int32) * x_2) + x_8)).toNatClampNeg))), .int x_4]) (rest := [.int (((45 : Int32) * x_6) + x_8), .ref o_p0]) 2 (c_J9_floorMod_7cf53 (l := vl E) (D := vD E) (T := T) (x_0 := ((s_p0 ((((45 : Int32) * x_6) + x_8)).toNatClampNeg) - (x_7 * (s_p0 ((((45 : Int32) * x_2) + x_8)).toNatClampNeg)))) (x_1 := x_4) h) gX3_clearBelow_J9_floorMod_7cf53 rfl rfl (by decide +kernel) ⟨Nat.zero_le _, Nat.zero_le _⟩ ⟨rfl, rfl, by decide, by decide⟩ (Nat.le_of_ble_eq_true rfl) rfl dX3_clearBelow_101 (fun r_101 h => ?_)
        refine v_iast X (ws' := (cl_X3_clearBelow T o_p0 o_p3 a_p3 (upd s_p0 ((((45 : Int32) * x_6) + x_8)).toNatClampNeg r_101) s_p3_there s_p3_kind s_p3_tag s_p3_size s_p3_lineCount)) 0 0 rfl rfl h.1 rfl dX3_clearBelow_104 ?_
        replace h := h.2
        refine v_iinc X (v := (x_8 + (1 : Int32))) (lv' := [(8, .int (x_8 + (1 : Int32))), (9, .int (x_7 * (s_p0 ((((45 : Int32) * x_2) + x_8)).toNatClampNeg))), (0, .ref o_p0), (1, .int x_1), (2, .int x_2), (3, .ref o_p3), (4, .int x_4), (5, .int x_5), (6, .int x_6), (7, .int x_7)]) 9 dX3_clearBelow_105 rfl rfl (by decide) rfl ?_
        refine v_goto X (tgt := 49) dX3_clearBelow_108 (by decide) ?_
        refine v_lv (lv' := [(0, .ref o_p0), (1, .int x_1), (2, .int x_2), (3, .ref o_p3), (4, .int x_4), (5, .int x_5), (6, .int x_6), (7, .int x_7), (8, .int (x_8 + (1 : Int32)))]) [2, 3, 4, 5, 6, 7, 8, 9, 0] rfl ?_
        exact hK_49 _ _ h
set_option maxHeartbeats 4000000 in
set_option maxRecDepth 100000 in
theorem k_X3_clearBelow_20 {E : vE} {T : Nat → ClassId} {o_p0 : Nat} {o_p3 : Nat} {a_p3 : Nat → Nat} {s_p3_there : Int32} {s_p3_kind : Int32} {s_p3_tag : Int32} {s_p3_size : Int32} {s_p3_lineCount : Int32} {x_1 : Int32} {x_2 : Int32} {x_4 : Int32} {x_5 : Int32} {Q : (Nat → Int32) → Prop} (X : vX E cX3_clearBelow 10 RX3 wsX3_clearBelow (vT T) (vr 1 22)) (r : r_X3_clearBelow E T o_p0 o_p3 a_p3 s_p3_there s_p3_kind s_p3_tag s_p3_size s_p3_lineCount Q) : ∀ (n_ : Nat) (x_6 : Int32) (s_p0 : Nat → Int32), w_X3_clearBelow_20 x_1 x_2 x_4 x_5 s_p3_size s_p3_lineCount Q n_ x_6 s_p0 → V E 0 0 20 [(0, .ref o_p0), (1, .int x_1), (2, .int x_2), (3, .ref o_p3), (4, .int x_4), (5, .int x_5), (6, .int x_6)] [] (cl_X3_clearBelow T o_p0 o_p3 a_p3 s_p0 s_p3_there s_p3_kind s_p3_tag s_p3_size s_p3_lineCount) := by
  intro n_
  induction n_ with
  | zero => intro x_6 s_p0 h; exact h.elim
  | succ n_ hK_20 =>
    intro x_6 s_p0 h
    replace h : w_X3_clearBelow_20s x_1 x_2 x_4 x_5 s_p3_size s_p3_lineCount Q (w_X3_clearBelow_20 x_1 x_2 x_4 x_5 s_p3_size s_p3_lineCount Q n_) x_6 s_p0 := h
    unfold w_X3_clearBelow_20s at h
    refine v_iload X 6 dX3_clearBelow_20 rfl ?_
    refine v_aload_n X 3 dX3_clearBelow_22 rfl rfl ?_
    refine v_getN X 1 7 (F := TX5) (N := 8) iX3_clearBelow_X5 rfl rfl (by decide) (List.mem_of_getElem? (i := 31) rfl) rfl rfl dX3_clearBelow_23 ?_
    refine v_icmp_ge X (tgt := 117) dX3_clearBelow_26 (by decide) (fun c_26 => ?_) (fun c_26 => ?_)
    · replace h := h.1 c_26
      exact r _ _ (s_p0) _ dX3_clearBelow_117 h rfl
    · replace h := h.2 c_26
      refine v_aload_n X 0 dX3_clearBelow_29 rfl rfl ?_
      refine v_bipush X dX3_clearBelow_30 (v := (45 : Int32)) (by decide) ?_
      refine v_iload X 6 dX3_clearBelow_32 rfl ?_
      refine v_imul X dX3_clearBelow_34 ?_
      refine v_iload_n X 1 dX3_clearBelow_35 rfl rfl ?_
      refine v_iadd X dX3_clearBelow_36 ?_
      refine v_iald X 0 0 rfl rfl h.1 dX3_clearBelow_37 ?_
      replace h := h.2
      refine v_iload X 5 dX3_clearBelow_38 rfl ?_
      refine v_imul X dX3_clearBelow_40 ?_
      refine v_iload X 4 dX3_clearBelow_41 rfl ?_
      refine v_irem X dX3_clearBelow_43 h.1 ?_
      replace h := h.2
      refine v_istore X (lv' := [(7, .int (vrem ((s_p0 ((((45 : Int32) * x_6) + x_1)).toNatClampNeg) * x_5) x_4)), (0, .ref o_p0), (1, .int x_1), (2, .int x_2), (3, .ref o_p3), (4, .int x_4), (5, .int x_5), (6, .int x_6)]) dX3_clearBelow_44 (by decide) rfl ?_
      refine v_iload_n X 2 dX3_clearBelow_46 rfl rfl ?_
      refine v_istore X (lv' := [(8, .int x_1), (7, .int (vrem ((s_p0 ((((45 : Int32) * x_6) + x_1)).toNatClampNeg) * x_5) x_4)), (0, .ref o_p0), (1, .int x_1), (2, .int x_2), (3, .ref o_p3), (4, .int x_4), (5, .int x_5), (6, .int x_6)]) dX3_clearBelow_47 (by decide) rfl ?_
      refine v_lv (lv' := [(0, .ref o_p0), (1, .int x_1), (2, .int x_2), (3, .ref o_p3), (4, .int x_4), (5, .int x_5), (6, .int x_6), (7, .int (vrem ((s_p0 ((((45 : Int32) * x_6) + x_1)).toNatClampNeg) * x_5) x_4)), (8, .int x_1)]) [2, 3, 4, 5, 6, 7, 8, 1, 0] rfl ?_
      obtain ⟨n_, h⟩ := h
      exact k_X3_clearBelow_49 X r hK_20 n_ _ _ h
set_option maxHeartbeats 4000000 in
set_option maxRecDepth 100000 in
theorem c_X3_clearBelow {l : Launch} {D : va_G} {T : Nat → ClassId} {o_p0 : Nat} {o_p3 : Nat} {a_p3 : Nat → Nat} {s_p0 : Nat → Int32} {s_p3_there : Int32} {s_p3_kind : Int32} {s_p3_tag : Int32} {s_p3_size : Int32} {s_p3_lineCount : Int32} {x_1 : Int32} {x_2 : Int32} {x_4 : Int32} {Q : (Nat → Int32) → Prop} (h : w_X3_clearBelow x_1 x_2 x_4 s_p0 s_p3_size s_p3_lineCount Q) : vCv l D (vT T) yX3_clearBelow wsX3_clearBelow (vr 1 22) [.ref o_p0, .int x_1, .int x_2, .ref o_p3, .int x_4] (cl_X3_clearBelow T o_p0 o_p3 a_p3 s_p0 s_p3_there s_p3_kind s_p3_tag s_p3_size s_p3_lineCount) (fun (u : (Nat → Int32)) => Q u) (fun (u : (Nat → Int32)) => (cl_X3_clearBelow T o_p0 o_p3 a_p3 u s_p3_there s_p3_kind s_p3_tag s_p3_size s_p3_lineCount)) := by
  refine vC_v (cc := cX3_clearBelow) (nL := 10) (by decide +kernel) rfl ⟨rfl, rfl⟩ (Nat.le_of_ble_eq_true rfl) rfl ?_
  intro E el eD X r
  unfold w_X3_clearBelow at h
  refine v_aload_n X 0 dX3_clearBelow_0 rfl rfl ?_
  refine v_bipush X dX3_clearBelow_1 (v := (45 : Int32)) (by decide) ?_
  refine v_iload_n X 2 dX3_clearBelow_3 rfl rfl ?_
  refine v_imul X dX3_clearBelow_4 ?_
  refine v_iload_n X 1 dX3_clearBelow_5 rfl rfl ?_
  refine v_iadd X dX3_clearBelow_6 ?_
  refine v_iald X 0 0 rfl rfl h.1 dX3_clearBelow_7 ?_
  replace h := h.2
  refine v_iload X 4 dX3_clearBelow_8 rfl ?_
  refine v_callSi0 X (As := [.int (s_p0 ((((45 : Int32) * x_2) + x_1)).toNatClampNeg), .int x_4]) (rest := []) 2 (c_X3_inverseOf (l := vl E) (D := vD E) (T := T) (x_0 := (s_p0 ((((45 : Int32) * x_2) + x_1)).toNatClampNeg)) (x_1 := x_4) h) gX3_clearBelow_X3_inverseOf rfl rfl (by decide +kernel) ⟨Nat.zero_le _, Nat.zero_le _⟩ ⟨rfl, rfl, by decide, by decide⟩ (Nat.le_of_ble_eq_true rfl) rfl dX3_clearBelow_10 (fun r_10 h => ?_)
  refine v_istore X (lv' := [(5, .int r_10), (0, .ref o_p0), (1, .int x_1), (2, .int x_2), (3, .ref o_p3), (4, .int x_4)]) dX3_clearBelow_13 (by decide) rfl ?_
  refine v_iload_n X 3 dX3_clearBelow_15 rfl rfl ?_
  refine v_iconst X dX3_clearBelow_16 (v := (1 : Int32)) (by decide) ?_
  refine v_iadd X dX3_clearBelow_17 ?_
  refine v_istore X (lv' := [(6, .int (x_2 + (1 : Int32))), (5, .int r_10), (0, .ref o_p0), (1, .int x_1), (2, .int x_2), (3, .ref o_p3), (4, .int x_4)]) dX3_clearBelow_18 (by decide) rfl ?_
  refine v_lv (lv' := [(0, .ref o_p0), (1, .int x_1), (2, .int x_2), (3, .ref o_p3), (4, .int x_4), (5, .int r_10), (6, .int (x_2 + (1 : Int32)))]) [2, 3, 4, 5, 6, 1, 0] rfl ?_
  obtain ⟨n_, h⟩ := h
  exact k_X3_clearBelow_20 X r n_ _ _ h
-- X3_firstWith
abbrev cl_X3_firstWith (T : Nat → ClassId) (o_p0 : Nat) (s_p0 : Nat → Int32) : va_W := [vI T o_p0 2025 s_p0]
abbrev r_X3_firstWith (E : vE) (T : Nat → ClassId) (o_p0 : Nat) (s_p0 : Nat → Int32) (Q : Int32 → Prop) : Prop := vRi E cX3_firstWith (fun v (u : Unit) => Q v) (fun (u : Unit) => (cl_X3_firstWith T o_p0 s_p0))
def w_X3_firstWith_3s (x_1 : Int32) (x_3 : Int32) (s_p0 : Nat → Int32) (Q : Int32 → Prop) (K_3 : (Int32) → Prop) (x_4 : Int32) : Prop := ((x_3 ≤ x_4 → (Q x_3)) ∧ (¬ x_3 ≤ x_4 → (vp_in (((45 : Int32) * x_4) + x_1) 2025 ∧ (((s_p0 ((((45 : Int32) * x_4) + x_1)).toNatClampNeg) = 0 → (K_3 (x_4 + (1 : Int32)))) ∧ (¬ (s_p0 ((((45 : Int32) * x_4) + x_1)).toNatClampNeg) = 0 → (Q x_4))))))
def w_X3_firstWith_3 (x_1 : Int32) (x_3 : Int32) (s_p0 : Nat → Int32) (Q : Int32 → Prop) : Nat → (Int32) → Prop
  | 0 => fun _ => False
  | n_ + 1 => w_X3_firstWith_3s x_1 x_3 s_p0 Q (w_X3_firstWith_3 x_1 x_3 s_p0 Q n_)
def w_X3_firstWith (x_1 : Int32) (x_2 : Int32) (x_3 : Int32) (s_p0 : Nat → Int32) (Q : Int32 → Prop) : Prop := (∃ n_, w_X3_firstWith_3 x_1 x_3 s_p0 Q n_ x_2)
-- X3_firstWith
set_option maxHeartbeats 4000000 in
set_option maxRecDepth 100000 in
theorem k_X3_firstWith_3 {E : vE} {T : Nat → ClassId} {o_p0 : Nat} {s_p0 : Nat → Int32} {x_1 : Int32} {x_3 : Int32} {Q : Int32 → Prop} (X : vX E cX3_firstWith 5 RX3 wsX3_firstWith (vT T) (vr 0 0)) (r : r_X3_firstWith E T o_p0 s_p0 Q) : ∀ (n_ : Nat) (x_4 : Int32), w_X3_firstWith_3 x_1 x_3 s_p0 Q n_ x_4 → V E 0 0 3 [(0, .ref o_p0), (1, .int x_1), (3, .int x_3), (4, .int x_4)] [] (cl_X3_firstWith T o_p0 s_p0) := by
  intro n_
  induction n_ with
  | zero => intro x_4 h; exact h.elim
  | succ n_ hK_3 =>
    intro x_4 h
    replace h : w_X3_firstWith_3s x_1 x_3 s_p0 Q (w_X3_firstWith_3 x_1 x_3 s_p0 Q n_) x_4 := h
    unfold w_X3_firstWith_3s at h
    refine v_iload X 3 dX3_firstWith_3 rfl ?_
    refine v_iload_n X 2 dX3_firstWith_5 rfl rfl ?_
    refine v_icmp_ge X (tgt := 30) dX3_firstWith_6 (by decide) (fun c_6 => ?_) (fun c_6 => ?_)
    · replace h := h.1 c_6
      refine v_iload_n X 2 dX3_firstWith_30 rfl rfl ?_
      exact r _ _ _ () _ dX3_firstWith_31 h rfl
    · replace h := h.2 c_6
      refine v_aload_n X 0 dX3_firstWith_9 rfl rfl ?_
      refine v_bipush X dX3_firstWith_10 (v := (45 : Int32)) (by decide) ?_
      refine v_iload X 3 dX3_firstWith_12 rfl ?_
      refine v_imul X dX3_firstWith_14 ?_
      refine v_iload_n X 1 dX3_firstWith_15 rfl rfl ?_
      refine v_iadd X dX3_firstWith_16 ?_
      refine v_iald X 0 0 rfl rfl h.1 dX3_firstWith_17 ?_
      replace h := h.2
      refine v_if_eq X (tgt := 24) dX3_firstWith_18 (by decide) (fun c_18 => ?_) (fun c_18 => ?_)
      · replace h := h.1 c_18
        refine v_iinc X (v := (x_4 + (1 : Int32))) (lv' := [(4, .int (x_4 + (1 : Int32))), (0, .ref o_p0), (1, .int x_1), (3, .int x_3)]) 3 dX3_firstWith_24 rfl rfl (by decide) rfl ?_
        refine v_goto X (tgt := 3) dX3_firstWith_27 (by decide) ?_
        refine v_lv (lv' := [(0, .ref o_p0), (1, .int x_1), (3, .int x_3), (4, .int (x_4 + (1 : Int32)))]) [1, 2, 3, 0] rfl ?_
        exact hK_3 _ h
      · replace h := h.2 c_18
        refine v_iload X 3 dX3_firstWith_21 rfl ?_
        exact r _ _ _ () _ dX3_firstWith_23 h rfl
set_option maxHeartbeats 4000000 in
set_option maxRecDepth 100000 in
theorem c_X3_firstWith {l : Launch} {D : va_G} {T : Nat → ClassId} {o_p0 : Nat} {s_p0 : Nat → Int32} {x_1 : Int32} {x_2 : Int32} {x_3 : Int32} {Q : Int32 → Prop} (h : w_X3_firstWith x_1 x_2 x_3 s_p0 Q) : vCi l D (vT T) yX3_firstWith wsX3_firstWith (vr 0 0) [.ref o_p0, .int x_1, .int x_2, .int x_3] (cl_X3_firstWith T o_p0 s_p0) (fun v (u : Unit) => Q v) (fun (u : Unit) => (cl_X3_firstWith T o_p0 s_p0)) := by
  refine vC_i (cc := cX3_firstWith) (nL := 5) (by decide +kernel) rfl ⟨rfl, rfl⟩ (Nat.le_of_ble_eq_true rfl) rfl ?_
  intro E el eD X r
  unfold w_X3_firstWith at h
  refine v_iload_n X 2 dX3_firstWith_0 rfl rfl ?_
  refine v_istore X (lv' := [(4, .int x_2), (0, .ref o_p0), (1, .int x_1), (2, .int x_2), (3, .int x_3)]) dX3_firstWith_1 (by decide) rfl ?_
  refine v_lv (lv' := [(0, .ref o_p0), (1, .int x_1), (3, .int x_3), (4, .int x_2)]) [1, 2, 4, 0] rfl ?_
  obtain ⟨n_, h⟩ := h
  exact k_X3_firstWith_3 X r n_ _ h
-- X3_swapRows
abbrev cl_X3_swapRows (T : Nat → ClassId) (o_p0 : Nat) (s_p0 : Nat → Int32) : va_W := [vI T o_p0 2025 s_p0]
abbrev r_X3_swapRows (E : vE) (T : Nat → ClassId) (o_p0 : Nat) (Q : (Nat → Int32) → Prop) : Prop := vRv E cX3_swapRows (fun (u : (Nat → Int32)) => Q u) (fun (u : (Nat → Int32)) => (cl_X3_swapRows T o_p0 u))
def w_X3_swapRows_3s (x_1 : Int32) (x_2 : Int32) (x_3 : Int32) (Q : (Nat → Int32) → Prop) (K_3 : (Int32) → (Nat → Int32) → Prop) (x_4 : Int32) (s_p0 : Nat → Int32) : Prop := ((x_3 ≤ x_4 → (Q s_p0)) ∧ (¬ x_3 ≤ x_4 → (vp_in (((45 : Int32) * x_1) + x_4) 2025 ∧ (vp_in (((45 : Int32) * x_2) + x_4) 2025 ∧ (vp_in (((45 : Int32) * x_1) + x_4) 2025 ∧ (vp_in (((45 : Int32) * x_2) + x_4) 2025 ∧ (K_3 (x_4 + (1 : Int32)) (upd (upd s_p0 ((((45 : Int32) * x_1) + x_4)).toNatClampNeg (s_p0 ((((45 : Int32) * x_2) + x_4)).toNatClampNeg)) ((((45 : Int32) * x_2) + x_4)).toNatClampNeg (s_p0 ((((45 : Int32) * x_1) + x_4)).toNatClampNeg)))))))))
def w_X3_swapRows_3 (x_1 : Int32) (x_2 : Int32) (x_3 : Int32) (Q : (Nat → Int32) → Prop) : Nat → (Int32) → (Nat → Int32) → Prop
  | 0 => fun _ _ => False
  | n_ + 1 => w_X3_swapRows_3s x_1 x_2 x_3 Q (w_X3_swapRows_3 x_1 x_2 x_3 Q n_)
def w_X3_swapRows (x_1 : Int32) (x_2 : Int32) (x_3 : Int32) (s_p0 : Nat → Int32) (Q : (Nat → Int32) → Prop) : Prop := (∃ n_, w_X3_swapRows_3 x_1 x_2 x_3 Q n_ (0 : Int32) s_p0)
-- X3_swapRows
set_option maxHeartbeats 4000000 in
set_option maxRecDepth 100000 in
theorem k_X3_swapRows_3 {E : vE} {T : Nat → ClassId} {o_p0 : Nat} {x_1 : Int32} {x_2 : Int32} {x_3 : Int32} {Q : (Nat → Int32) → Prop} (X : vX E cX3_swapRows 6 RX3 wsX3_swapRows (vT T) (vr 0 0)) (r : r_X3_swapRows E T o_p0 Q) : ∀ (n_ : Nat) (x_4 : Int32) (s_p0 : Nat → Int32), w_X3_swapRows_3 x_1 x_2 x_3 Q n_ x_4 s_p0 → V E 0 0 3 [(0, .ref o_p0), (1, .int x_1), (2, .int x_2), (3, .int x_3), (4, .int x_4)] [] (cl_X3_swapRows T o_p0 s_p0) := by
  intro n_
  induction n_ with
  | zero => intro x_4 s_p0 h; exact h.elim
  | succ n_ hK_3 =>
    intro x_4 s_p0 h
    replace h : w_X3_swapRows_3s x_1 x_2 x_3 Q (w_X3_swapRows_3 x_1 x_2 x_3 Q n_) x_4 s_p0 := h
    unfold w_X3_swapRows_3s at h
    refine v_iload X 4 dX3_swapRows_3 rfl ?_
    refine v_iload_n X 3 dX3_swapRows_5 rfl rfl ?_
    refine v_icmp_ge X (tgt := 55) dX3_swapRows_6 (by decide) (fun c_6 => ?_) (fun c_6 => ?_)
    · replace h := h.1 c_6
      exact r _ _ (s_p0) _ dX3_swapRows_55 h rfl
    · replace h := h.2 c_6
      refine v_aload_n X 0 dX3_swapRows_9 rfl rfl ?_
      refine v_bipush X dX3_swapRows_10 (v := (45 : Int32)) (by decide) ?_
      refine v_iload_n X 1 dX3_swapRows_12 rfl rfl ?_
      refine v_imul X dX3_swapRows_13 ?_
      refine v_iload X 4 dX3_swapRows_14 rfl ?_
      refine v_iadd X dX3_swapRows_16 ?_
      refine v_iald X 0 0 rfl rfl h.1 dX3_swapRows_17 ?_
      replace h := h.2
      refine v_istore X (lv' := [(5, .int (s_p0 ((((45 : Int32) * x_1) + x_4)).toNatClampNeg)), (0, .ref o_p0), (1, .int x_1), (2, .int x_2), (3, .int x_3), (4, .int x_4)]) dX3_swapRows_18 (by decide) rfl ?_
      refine v_aload_n X 1 dX3_swapRows_20 rfl rfl ?_
      refine v_bipush X dX3_swapRows_21 (v := (45 : Int32)) (by decide) ?_
      refine v_iload_n X 2 dX3_swapRows_23 rfl rfl ?_
      refine v_imul X dX3_swapRows_24 ?_
      refine v_iload X 5 dX3_swapRows_25 rfl ?_
      refine v_iadd X dX3_swapRows_27 ?_
      refine v_aload_n X 1 dX3_swapRows_28 rfl rfl ?_
      refine v_bipush X dX3_swapRows_29 (v := (45 : Int32)) (by decide) ?_
      refine v_iload_n X 3 dX3_swapRows_31 rfl rfl ?_
      refine v_imul X dX3_swapRows_32 ?_
      refine v_iload X 5 dX3_swapRows_33 rfl ?_
      refine v_iadd X dX3_swapRows_35 ?_
      refine v_iald X 0 0 rfl rfl h.1 dX3_swapRows_36 ?_
      replace h := h.2
      refine v_iast X (ws' := (cl_X3_swapRows T o_p0 (upd s_p0 ((((45 : Int32) * x_1) + x_4)).toNatClampNeg (s_p0 ((((45 : Int32) * x_2) + x_4)).toNatClampNeg)))) 0 0 rfl rfl h.1 rfl dX3_swapRows_37 ?_
      replace h := h.2
      refine v_aload_n X 1 dX3_swapRows_38 rfl rfl ?_
      refine v_bipush X dX3_swapRows_39 (v := (45 : Int32)) (by decide) ?_
      refine v_iload_n X 3 dX3_swapRows_41 rfl rfl ?_
      refine v_imul X dX3_swapRows_42 ?_
      refine v_iload X 5 dX3_swapRows_43 rfl ?_
      refine v_iadd X dX3_swapRows_45 ?_
      refine v_iload X 0 dX3_swapRows_46 rfl ?_
      refine v_iast X (ws' := (cl_X3_swapRows T o_p0 (upd (upd s_p0 ((((45 : Int32) * x_1) + x_4)).toNatClampNeg (s_p0 ((((45 : Int32) * x_2) + x_4)).toNatClampNeg)) ((((45 : Int32) * x_2) + x_4)).toNatClampNeg (s_p0 ((((45 : Int32) * x_1) + x_4)).toNatClampNeg)))) 0 0 rfl rfl h.1 rfl dX3_swapRows_48 ?_
      replace h := h.2
      refine v_iinc X (v := (x_4 + (1 : Int32))) (lv' := [(4, .int (x_4 + (1 : Int32))), (5, .int (s_p0 ((((45 : Int32) * x_1) + x_4)).toNatClampNeg)), (0, .ref o_p0), (1, .int x_1), (2, .int x_2), (3, .int x_3)]) 5 dX3_swapRows_49 rfl rfl (by decide) rfl ?_
      refine v_goto X (tgt := 3) dX3_swapRows_52 (by decide) ?_
      refine v_lv (lv' := [(0, .ref o_p0), (1, .int x_1), (2, .int x_2), (3, .int x_3), (4, .int (x_4 + (1 : Int32)))]) [2, 3, 4, 5, 0] rfl ?_
      exact hK_3 _ _ h
set_option maxHeartbeats 4000000 in
set_option maxRecDepth 100000 in
theorem c_X3_swapRows {l : Launch} {D : va_G} {T : Nat → ClassId} {o_p0 : Nat} {s_p0 : Nat → Int32} {x_1 : Int32} {x_2 : Int32} {x_3 : Int32} {Q : (Nat → Int32) → Prop} (h : w_X3_swapRows x_1 x_2 x_3 s_p0 Q) : vCv l D (vT T) yX3_swapRows wsX3_swapRows (vr 0 0) [.ref o_p0, .int x_1, .int x_2, .int x_3] (cl_X3_swapRows T o_p0 s_p0) (fun (u : (Nat → Int32)) => Q u) (fun (u : (Nat → Int32)) => (cl_X3_swapRows T o_p0 u)) := by
  refine vC_v (cc := cX3_swapRows) (nL := 6) (by decide +kernel) rfl ⟨rfl, rfl⟩ (Nat.le_of_ble_eq_true rfl) rfl ?_
  intro E el eD X r
  unfold w_X3_swapRows at h
  refine v_iconst X dX3_swapRows_0 (v := (0 : Int32)) (by decide) ?_
  refine v_istore X (lv' := [(4, .int (0 : Int32)), (0, .ref o_p0), (1, .int x_1), (2, .int x_2), (3, .int x_3)]) dX3_swapRows_1 (by decide) rfl ?_
  refine v_lv (lv' := [(0, .ref o_p0), (1, .int x_1), (2, .int x_2), (3, .int x_3), (4, .int (0 : Int32))]) [1, 2, 3, 4, 0] rfl ?_
  obtain ⟨n_, h⟩ := h
  exact k_X3_swapRows_3 X r n_ _ _ h
-- X3_rankOf
abbrev cl_X3_rankOf (T : Nat → ClassId) (o_p0 : Nat) (a_p0 : Nat → Nat) (o_p2 : Nat) (s_p0_there : Int32) (s_p0_kind : Int32) (s_p0_tag : Int32) (s_p0_size : Int32) (s_p0_lineCount : Int32) (s_p0_sets : Nat → Int64) (s_p2 : Nat → Int32) : va_W := [vO o_p0 2 [.ref (a_p0 0), .ref (a_p0 1), .ref (a_p0 2), .int s_p0_there, .int s_p0_kind, .int s_p0_tag, .int s_p0_size, .int s_p0_lineCount], vJ T (a_p0 0) 45 s_p0_sets, vI T o_p2 2025 s_p2]
abbrev r_X3_rankOf (E : vE) (T : Nat → ClassId) (o_p0 : Nat) (a_p0 : Nat → Nat) (o_p2 : Nat) (s_p0_there : Int32) (s_p0_kind : Int32) (s_p0_tag : Int32) (s_p0_size : Int32) (s_p0_lineCount : Int32) (s_p0_sets : Nat → Int64) (Q : Int32 → (Nat → Int32) → Prop) : Prop := vRi E cX3_rankOf (fun v (u : (Nat → Int32)) => Q v u) (fun (u : (Nat → Int32)) => (cl_X3_rankOf T o_p0 a_p0 o_p2 s_p0_there s_p0_kind s_p0_tag s_p0_size s_p0_lineCount s_p0_sets u))
def w_X3_rankOf_135 (x_3 : Int32) (s_p0_size : Int32) (s_p0_lineCount : Int32) (s_p0_sets : Nat → Int64) (s_p2 : Nat → Int32) (Q : Int32 → (Nat → Int32) → Prop) : Prop := (Q x_3 s_p2)
def w_X3_rankOf_129 (x_1 : Int32) (x_3 : Int32) (x_4 : Int32) (s_p0_size : Int32) (s_p0_lineCount : Int32) (s_p0_sets : Nat → Int64) (s_p2 : Nat → Int32) (K_67 : (Int32) → (Int32) → (Nat → Int32) → Prop) (Q : Int32 → (Nat → Int32) → Prop) : Prop := (K_67 x_3 (x_4 + (1 : Int32)) s_p2)
def w_X3_rankOf_67s (x_1 : Int32) (s_p0_size : Int32) (s_p0_lineCount : Int32) (s_p0_sets : Nat → Int64) (Q : Int32 → (Nat → Int32) → Prop) (K_67 : (Int32) → (Int32) → (Nat → Int32) → Prop) (x_3 : Int32) (x_4 : Int32) (s_p2 : Nat → Int32) : Prop := ((s_p0_size ≤ x_4 → (w_X3_rankOf_135 x_3 s_p0_size s_p0_lineCount s_p0_sets s_p2 Q)) ∧ (¬ s_p0_size ≤ x_4 → ((s_p0_lineCount ≤ x_3 → (w_X3_rankOf_135 x_3 s_p0_size s_p0_lineCount s_p0_sets s_p2 Q)) ∧ (¬ s_p0_lineCount ≤ x_3 → (w_X3_firstWith x_4 x_3 s_p0_lineCount s_p2 (fun (r_92 : Int32) => ((s_p0_lineCount ≤ r_92 → (w_X3_rankOf_129 x_1 x_3 x_4 s_p0_size s_p0_lineCount s_p0_sets s_p2 K_67 Q)) ∧ (¬ s_p0_lineCount ≤ r_92 → (w_X3_swapRows r_92 x_3 s_p0_size s_p2 (fun (u_114_0 : Nat → Int32) => (w_X3_clearBelow x_4 x_3 x_1 u_114_0 s_p0_size s_p0_lineCount (fun (u_123_0 : Nat → Int32) => (w_X3_rankOf_129 x_1 (x_3 + (1 : Int32)) x_4 s_p0_size s_p0_lineCount s_p0_sets u_123_0 K_67 Q)))))))))))))
def w_X3_rankOf_67 (x_1 : Int32) (s_p0_size : Int32) (s_p0_lineCount : Int32) (s_p0_sets : Nat → Int64) (Q : Int32 → (Nat → Int32) → Prop) : Nat → (Int32) → (Int32) → (Nat → Int32) → Prop
  | 0 => fun _ _ _ => False
  | n_ + 1 => w_X3_rankOf_67s x_1 s_p0_size s_p0_lineCount s_p0_sets Q (w_X3_rankOf_67 x_1 s_p0_size s_p0_lineCount s_p0_sets Q n_)
def w_X3_rankOf_49 (x_1 : Int32) (x_3 : Int32) (x_4 : Int32) (t_1 : Int32) (t_2 : Int32) (s_p0_size : Int32) (s_p0_lineCount : Int32) (s_p0_sets : Nat → Int64) (s_p2 : Nat → Int32) (K_2 : (Int32) → (Nat → Int32) → Prop) (K_13 : (Int32) → (Nat → Int32) → Prop) (Q : Int32 → (Nat → Int32) → Prop) : Prop := (vp_in t_1 2025 ∧ (K_13 (x_4 + (1 : Int32)) (upd s_p2 (t_1).toNatClampNeg t_2)))
def w_X3_rankOf_13s (x_1 : Int32) (x_3 : Int32) (s_p0_size : Int32) (s_p0_lineCount : Int32) (s_p0_sets : Nat → Int64) (K_2 : (Int32) → (Nat → Int32) → Prop) (Q : Int32 → (Nat → Int32) → Prop) (K_13 : (Int32) → (Nat → Int32) → Prop) (x_4 : Int32) (s_p2 : Nat → Int32) : Prop := ((s_p0_size ≤ x_4 → (K_2 (x_3 + (1 : Int32)) s_p2)) ∧ (¬ s_p0_size ≤ x_4 → (vp_in x_3 45 ∧ (w_X6_has (s_p0_sets (x_3).toNatClampNeg) x_4 (fun (r_38 : Int32) => ((r_38 = 0 → (w_X3_rankOf_49 x_1 x_3 x_4 (((45 : Int32) * x_3) + x_4) (0 : Int32) s_p0_size s_p0_lineCount s_p0_sets s_p2 K_2 K_13 Q)) ∧ (¬ r_38 = 0 → (w_X3_rankOf_49 x_1 x_3 x_4 (((45 : Int32) * x_3) + x_4) (1 : Int32) s_p0_size s_p0_lineCount s_p0_sets s_p2 K_2 K_13 Q))))))))
def w_X3_rankOf_13 (x_1 : Int32) (x_3 : Int32) (s_p0_size : Int32) (s_p0_lineCount : Int32) (s_p0_sets : Nat → Int64) (K_2 : (Int32) → (Nat → Int32) → Prop) (Q : Int32 → (Nat → Int32) → Prop) : Nat → (Int32) → (Nat → Int32) → Prop
  | 0 => fun _ _ => False
  | n_ + 1 => w_X3_rankOf_13s x_1 x_3 s_p0_size s_p0_lineCount s_p0_sets K_2 Q (w_X3_rankOf_13 x_1 x_3 s_p0_size s_p0_lineCount s_p0_sets K_2 Q n_)
def w_X3_rankOf_2s (x_1 : Int32) (s_p0_size : Int32) (s_p0_lineCount : Int32) (s_p0_sets : Nat → Int64) (Q : Int32 → (Nat → Int32) → Prop) (K_2 : (Int32) → (Nat → Int32) → Prop) (x_3 : Int32) (s_p2 : Nat → Int32) : Prop := ((s_p0_lineCount ≤ x_3 → (∃ n_, w_X3_rankOf_67 x_1 s_p0_size s_p0_lineCount s_p0_sets Q n_ (0 : Int32) (0 : Int32) s_p2)) ∧ (¬ s_p0_lineCount ≤ x_3 → (∃ n_, w_X3_rankOf_13 x_1 x_3 s_p0_size s_p0_lineCount s_p0_sets K_2 Q n_ (0 : Int32) s_p2)))
def w_X3_rankOf_2 (x_1 : Int32) (s_p0_size : Int32) (s_p0_lineCount : Int32) (s_p0_sets : Nat → Int64) (Q : Int32 → (Nat → Int32) → Prop) : Nat → (Int32) → (Nat → Int32) → Prop
  | 0 => fun _ _ => False
  | n_ + 1 => w_X3_rankOf_2s x_1 s_p0_size s_p0_lineCount s_p0_sets Q (w_X3_rankOf_2 x_1 s_p0_size s_p0_lineCount s_p0_sets Q n_)
def w_X3_rankOf (x_1 : Int32) (s_p0_size : Int32) (s_p0_lineCount : Int32) (s_p0_sets : Nat → Int64) (s_p2 : Nat → Int32) (Q : Int32 → (Nat → Int32) → Prop) : Prop := (∃ n_, w_X3_rankOf_2 x_1 s_p0_size s_p0_lineCount s_p0_sets Q n_ (0 : Int32) s_p2)
-- X3_rankOf
theorem iX3_rankOf_X5 : ∀ w ∈ wsX50, w ∈ wsX3_rankOf := by decide +kernel
set_option maxHeartbeats 4000000 in
set_option maxRecDepth 100000 in
theorem k_X3_rankOf_135 {E : vE} {T : Nat → ClassId} {o_p0 : Nat} {a_p0 : Nat → Nat} {o_p2 : Nat} {s_p0_there : Int32} {s_p0_kind : Int32} {s_p0_tag : Int32} {s_p0_size : Int32} {s_p0_lineCount : Int32} {s_p0_sets : Nat → Int64} {s_p2 : Nat → Int32} {x_3 : Int32} {Q : Int32 → (Nat → Int32) → Prop} (X : vX E cX3_rankOf 6 RX3 wsX3_rankOf (vT T) (vr 2 51)) (r : r_X3_rankOf E T o_p0 a_p0 o_p2 s_p0_there s_p0_kind s_p0_tag s_p0_size s_p0_lineCount s_p0_sets Q) (h : w_X3_rankOf_135 x_3 s_p0_size s_p0_lineCount s_p0_sets s_p2 Q) : V E 0 0 135 [(3, .int x_3)] [] (cl_X3_rankOf T o_p0 a_p0 o_p2 s_p0_there s_p0_kind s_p0_tag s_p0_size s_p0_lineCount s_p0_sets s_p2) := by
  unfold w_X3_rankOf_135 at h
  refine v_iload_n X 0 dX3_rankOf_135 rfl rfl ?_
  exact r _ _ _ (s_p2) _ dX3_rankOf_136 h rfl
set_option maxHeartbeats 4000000 in
set_option maxRecDepth 100000 in
theorem k_X3_rankOf_129 {E : vE} {T : Nat → ClassId} {o_p0 : Nat} {a_p0 : Nat → Nat} {o_p2 : Nat} {s_p0_there : Int32} {s_p0_kind : Int32} {s_p0_tag : Int32} {s_p0_size : Int32} {s_p0_lineCount : Int32} {s_p0_sets : Nat → Int64} {s_p2 : Nat → Int32} {x_1 : Int32} {x_3 : Int32} {x_4 : Int32} {K_67 : (Int32) → (Int32) → (Nat → Int32) → Prop} {Q : Int32 → (Nat → Int32) → Prop} (X : vX E cX3_rankOf 6 RX3 wsX3_rankOf (vT T) (vr 2 51)) (r : r_X3_rankOf E T o_p0 a_p0 o_p2 s_p0_there s_p0_kind s_p0_tag s_p0_size s_p0_lineCount s_p0_sets Q) (hK_67 : ∀ (x_3' : Int32) (x_4' : Int32) (s_p2' : Nat → Int32), K_67 x_3' x_4' s_p2' → V E 0 0 67 [(0, .ref o_p0), (1, .int x_1), (2, .ref o_p2), (3, .int x_3'), (4, .int x_4')] [] (cl_X3_rankOf T o_p0 a_p0 o_p2 s_p0_there s_p0_kind s_p0_tag s_p0_size s_p0_lineCount s_p0_sets s_p2')) (h : w_X3_rankOf_129 x_1 x_3 x_4 s_p0_size s_p0_lineCount s_p0_sets s_p2 K_67 Q) : V E 0 0 129 [(0, .ref o_p0), (1, .int x_1), (2, .ref o_p2), (3, .int x_3), (4, .int x_4)] [] (cl_X3_rankOf T o_p0 a_p0 o_p2 s_p0_there s_p0_kind s_p0_tag s_p0_size s_p0_lineCount s_p0_sets s_p2) := by
  unfold w_X3_rankOf_129 at h
  refine v_iinc X (v := (x_4 + (1 : Int32))) (lv' := [(4, .int (x_4 + (1 : Int32))), (0, .ref o_p0), (1, .int x_1), (2, .ref o_p2), (3, .int x_3)]) 4 dX3_rankOf_129 rfl rfl (by decide) rfl ?_
  refine v_goto X (tgt := 67) dX3_rankOf_132 (by decide) ?_
  refine v_lv (lv' := [(0, .ref o_p0), (1, .int x_1), (2, .ref o_p2), (3, .int x_3), (4, .int (x_4 + (1 : Int32)))]) [1, 2, 3, 4, 0] rfl ?_
  exact hK_67 _ _ _ h
set_option maxHeartbeats 4000000 in
set_option maxRecDepth 100000 in
theorem k_X3_rankOf_67 {E : vE} {T : Nat → ClassId} {o_p0 : Nat} {a_p0 : Nat → Nat} {o_p2 : Nat} {s_p0_there : Int32} {s_p0_kind : Int32} {s_p0_tag : Int32} {s_p0_size : Int32} {s_p0_lineCount : Int32} {s_p0_sets : Nat → Int64} {x_1 : Int32} {Q : Int32 → (Nat → Int32) → Prop} (X : vX E cX3_rankOf 6 RX3 wsX3_rankOf (vT T) (vr 2 51)) (r : r_X3_rankOf E T o_p0 a_p0 o_p2 s_p0_there s_p0_kind s_p0_tag s_p0_size s_p0_lineCount s_p0_sets Q) : ∀ (n_ : Nat) (x_3 : Int32) (x_4 : Int32) (s_p2 : Nat → Int32), w_X3_rankOf_67 x_1 s_p0_size s_p0_lineCount s_p0_sets Q n_ x_3 x_4 s_p2 → V E 0 0 67 [(0, .ref o_p0), (1, .int x_1), (2, .ref o_p2), (3, .int x_3), (4, .int x_4)] [] (cl_X3_rankOf T o_p0 a_p0 o_p2 s_p0_there s_p0_kind s_p0_tag s_p0_size s_p0_lineCount s_p0_sets s_p2) := by
  intro n_
  induction n_ with
  | zero => intro x_3 x_4 s_p2 h; exact h.elim
  | succ n_ hK_67 =>
    intro x_3 x_4 s_p2 h
    replace h : w_X3_rankOf_67s x_1 s_p0_size s_p0_lineCount s_p0_sets Q (w_X3_rankOf_67 x_1 s_p0_size s_p0_lineCount s_p0_sets Q n_) x_3 x_4 s_p2 := h
    unfold w_X3_rankOf_67s at h
    refine v_iload X 4 dX3_rankOf_67 rfl ?_
    refine v_aload_n X 0 dX3_rankOf_69 rfl rfl ?_
    refine v_getN X 0 6 (F := TX5) (N := 8) iX3_rankOf_X5 rfl rfl (by decide) (List.mem_of_getElem? (i := 26) rfl) rfl rfl dX3_rankOf_70 ?_
    refine v_icmp_ge X (tgt := 135) dX3_rankOf_73 (by decide) (fun c_73 => ?_) (fun c_73 => ?_)
    · replace h := h.1 c_73
      refine v_lv (lv' := [(3, .int x_3)]) [3] rfl ?_
      exact k_X3_rankOf_135 X r h
    · replace h := h.2 c_73
      refine v_iload_n X 3 dX3_rankOf_76 rfl rfl ?_
      refine v_aload_n X 0 dX3_rankOf_77 rfl rfl ?_
      refine v_getN X 0 7 (F := TX5) (N := 8) iX3_rankOf_X5 rfl rfl (by decide) (List.mem_of_getElem? (i := 31) rfl) rfl rfl dX3_rankOf_78 ?_
      refine v_icmp_ge X (tgt := 135) dX3_rankOf_81 (by decide) (fun c_81 => ?_) (fun c_81 => ?_)
      · replace h := h.1 c_81
        refine v_lv (lv' := [(3, .int x_3)]) [3] rfl ?_
        exact k_X3_rankOf_135 X r h
      · replace h := h.2 c_81
        refine v_aload_n X 2 dX3_rankOf_84 rfl rfl ?_
        refine v_iload X 4 dX3_rankOf_85 rfl ?_
        refine v_iload_n X 3 dX3_rankOf_87 rfl rfl ?_
        refine v_aload_n X 0 dX3_rankOf_88 rfl rfl ?_
        refine v_getN X 0 7 (F := TX5) (N := 8) iX3_rankOf_X5 rfl rfl (by decide) (List.mem_of_getElem? (i := 31) rfl) rfl rfl dX3_rankOf_89 ?_
        refine v_callSi X (As := [.ref o_p2, .int x_4, .int x_3, .int s_p0_lineCount]) (rest := []) 4 (c_X3_firstWith (l := vl E) (D := vD E) (T := T) (o_p0 := o_p2) (s_p0 := s_p2) (x_1 := x_4) (x_2 := x_3) (x_3 := s_p0_lineCount) h) gX3_rankOf_X3_firstWith rfl rfl (by decide +kernel) ⟨Nat.zero_le _, Nat.zero_le _⟩ ⟨rfl, rfl, by decide, by decide⟩ (Nat.le_of_ble_eq_true rfl) (wr := [vO o_p0 2 [.ref (a_p0 0), .ref (a_p0 1), .ref (a_p0 2), .int s_p0_there, .int s_p0_kind, .int s_p0_tag, .int s_p0_size, .int s_p0_lineCount], vJ T (a_p0 0) 45 s_p0_sets]) [2] [0, 1] rfl rfl rfl rfl (by decide) rfl dX3_rankOf_92 (fun r_92 u h => ?_)
        refine v_ws (ws' := (cl_X3_rankOf T o_p0 a_p0 o_p2 s_p0_there s_p0_kind s_p0_tag s_p0_size s_p0_lineCount s_p0_sets s_p2)) [0, 1, 2] rfl rfl ?_
        refine v_istore X (lv' := [(5, .int r_92), (0, .ref o_p0), (1, .int x_1), (2, .ref o_p2), (3, .int x_3), (4, .int x_4)]) dX3_rankOf_95 (by decide) rfl ?_
        refine v_iload X 0 dX3_rankOf_97 rfl ?_
        refine v_aload_n X 1 dX3_rankOf_99 rfl rfl ?_
        refine v_getN X 0 7 (F := TX5) (N := 8) iX3_rankOf_X5 rfl rfl (by decide) (List.mem_of_getElem? (i := 31) rfl) rfl rfl dX3_rankOf_100 ?_
        refine v_icmp_ge X (tgt := 129) dX3_rankOf_103 (by decide) (fun c_103 => ?_) (fun c_103 => ?_)
        · replace h := h.1 c_103
          refine v_lv (lv' := [(0, .ref o_p0), (1, .int x_1), (2, .ref o_p2), (3, .int x_3), (4, .int x_4)]) [1, 2, 3, 4, 5] rfl ?_
          exact k_X3_rankOf_129 X r hK_67 h
        · replace h := h.2 c_103
          refine v_aload_n X 3 dX3_rankOf_106 rfl rfl ?_
          refine v_iload X 0 dX3_rankOf_107 rfl ?_
          refine v_iload_n X 4 dX3_rankOf_109 rfl rfl ?_
          refine v_aload_n X 1 dX3_rankOf_110 rfl rfl ?_
          refine v_getN X 0 6 (F := TX5) (N := 8) iX3_rankOf_X5 rfl rfl (by decide) (List.mem_of_getElem? (i := 26) rfl) rfl rfl dX3_rankOf_111 ?_
          refine v_callSv X (As := [.ref o_p2, .int r_92, .int x_3, .int s_p0_size]) (rest := []) 4 (c_X3_swapRows (l := vl E) (D := vD E) (T := T) (o_p0 := o_p2) (s_p0 := s_p2) (x_1 := r_92) (x_2 := x_3) (x_3 := s_p0_size) h) gX3_rankOf_X3_swapRows rfl rfl (by decide +kernel) ⟨Nat.zero_le _, Nat.zero_le _⟩ ⟨rfl, rfl, by decide, by decide⟩ (Nat.le_of_ble_eq_true rfl) (wr := [vO o_p0 2 [.ref (a_p0 0), .ref (a_p0 1), .ref (a_p0 2), .int s_p0_there, .int s_p0_kind, .int s_p0_tag, .int s_p0_size, .int s_p0_lineCount], vJ T (a_p0 0) 45 s_p0_sets]) [2] [0, 1] rfl rfl rfl rfl (by decide) rfl dX3_rankOf_114 (fun u h => ?_)
          obtain ⟨u_114_0, rfl⟩ : ∃ z, z = u := ⟨_, rfl⟩
          refine v_ws (ws' := (cl_X3_rankOf T o_p0 a_p0 o_p2 s_p0_there s_p0_kind s_p0_tag s_p0_size s_p0_lineCount s_p0_sets u_114_0)) [0, 1, 2] rfl rfl ?_
          refine v_aload_n X 3 dX3_rankOf_117 rfl rfl ?_
          refine v_iload X 5 dX3_rankOf_118 rfl ?_
          refine v_iload_n X 4 dX3_rankOf_120 rfl rfl ?_
          refine v_aload_n X 1 dX3_rankOf_121 rfl rfl ?_
          refine v_iload_n X 2 dX3_rankOf_122 rfl rfl ?_
          refine v_callSv X (As := [.ref o_p2, .int x_4, .int x_3, .ref o_p0, .int x_1]) (rest := []) 5 (c_X3_clearBelow (l := vl E) (D := vD E) (T := T) (o_p0 := o_p2) (o_p3 := o_p0) (a_p3 := a_p0) (s_p0 := u_114_0) (s_p3_there := s_p0_there) (s_p3_kind := s_p0_kind) (s_p3_tag := s_p0_tag) (s_p3_size := s_p0_size) (s_p3_lineCount := s_p0_lineCount) (x_1 := x_4) (x_2 := x_3) (x_4 := x_1) h) gX3_rankOf_X3_clearBelow rfl rfl (by decide +kernel) ⟨Nat.zero_le _, Nat.zero_le _⟩ ⟨rfl, rfl, by decide, by decide⟩ (Nat.le_of_ble_eq_true rfl) (wr := [vJ T (a_p0 0) 45 s_p0_sets]) [2, 0] [1] rfl rfl rfl rfl (by decide) rfl dX3_rankOf_123 (fun u h => ?_)
          obtain ⟨u_123_0, rfl⟩ : ∃ z, z = u := ⟨_, rfl⟩
          refine v_ws (ws' := (cl_X3_rankOf T o_p0 a_p0 o_p2 s_p0_there s_p0_kind s_p0_tag s_p0_size s_p0_lineCount s_p0_sets u_123_0)) [2, 0, 1] rfl rfl ?_
          refine v_iinc X (v := (x_3 + (1 : Int32))) (lv' := [(3, .int (x_3 + (1 : Int32))), (5, .int r_92), (0, .ref o_p0), (1, .int x_1), (2, .ref o_p2), (4, .int x_4)]) 4 dX3_rankOf_126 rfl rfl (by decide) rfl ?_
          refine v_lv (lv' := [(0, .ref o_p0), (1, .int x_1), (2, .ref o_p2), (3, .int (x_3 + (1 : Int32))), (4, .int x_4)]) [2, 3, 4, 0, 5] rfl ?_
          exact k_X3_rankOf_129 X r hK_67 h
set_option maxHeartbeats 4000000 in
set_option maxRecDepth 100000 in
theorem k_X3_rankOf_49 {E : vE} {T : Nat → ClassId} {o_p0 : Nat} {a_p0 : Nat → Nat} {o_p2 : Nat} {s_p0_there : Int32} {s_p0_kind : Int32} {s_p0_tag : Int32} {s_p0_size : Int32} {s_p0_lineCount : Int32} {s_p0_sets : Nat → Int64} {s_p2 : Nat → Int32} {x_1 : Int32} {x_3 : Int32} {x_4 : Int32} {t_1 : Int32} {t_2 : Int32} {K_2 : (Int32) → (Nat → Int32) → Prop} {K_13 : (Int32) → (Nat → Int32) → Prop} {Q : Int32 → (Nat → Int32) → Prop} (X : vX E cX3_rankOf 6 RX3 wsX3_rankOf (vT T) (vr 2 51)) (r : r_X3_rankOf E T o_p0 a_p0 o_p2 s_p0_there s_p0_kind s_p0_tag s_p0_size s_p0_lineCount s_p0_sets Q) (hK_2 : ∀ (x_3' : Int32) (s_p2' : Nat → Int32), K_2 x_3' s_p2' → V E 0 0 2 [(0, .ref o_p0), (1, .int x_1), (2, .ref o_p2), (3, .int x_3')] [] (cl_X3_rankOf T o_p0 a_p0 o_p2 s_p0_there s_p0_kind s_p0_tag s_p0_size s_p0_lineCount s_p0_sets s_p2')) (hK_13 : ∀ (x_4' : Int32) (s_p2' : Nat → Int32), K_13 x_4' s_p2' → V E 0 0 13 [(0, .ref o_p0), (1, .int x_1), (2, .ref o_p2), (3, .int x_3), (4, .int x_4')] [] (cl_X3_rankOf T o_p0 a_p0 o_p2 s_p0_there s_p0_kind s_p0_tag s_p0_size s_p0_lineCount s_p0_sets s_p2')) (h : w_X3_rankOf_49 x_1 x_3 x_4 t_1 t_2 s_p0_size s_p0_lineCount s_p0_sets s_p2 K_2 K_13 Q) : V E 0 0 49 [(0, .ref o_p0), (1, .int x_1), (2, .ref o_p2), (3, .int x_3), (4, .int x_4)] [.int t_2, .int t_1, .ref o_p2] (cl_X3_rankOf T o_p0 a_p0 o_p2 s_p0_there s_p0_kind s_p0_tag s_p0_size s_p0_lineCount s_p0_sets s_p2) := by
  unfold w_X3_rankOf_49 at h
  refine v_iast X (ws' := (cl_X3_rankOf T o_p0 a_p0 o_p2 s_p0_there s_p0_kind s_p0_tag s_p0_size s_p0_lineCount s_p0_sets (upd s_p2 (t_1).toNatClampNeg t_2))) 2 0 rfl rfl h.1 rfl dX3_rankOf_49 ?_
  replace h := h.2
  refine v_iinc X (v := (x_4 + (1 : Int32))) (lv' := [(4, .int (x_4 + (1 : Int32))), (0, .ref o_p0), (1, .int x_1), (2, .ref o_p2), (3, .int x_3)]) 4 dX3_rankOf_50 rfl rfl (by decide) rfl ?_
  refine v_goto X (tgt := 13) dX3_rankOf_53 (by decide) ?_
  refine v_lv (lv' := [(0, .ref o_p0), (1, .int x_1), (2, .ref o_p2), (3, .int x_3), (4, .int (x_4 + (1 : Int32)))]) [1, 2, 3, 4, 0] rfl ?_
  exact hK_13 _ _ h
set_option maxHeartbeats 4000000 in
set_option maxRecDepth 100000 in
theorem k_X3_rankOf_13 {E : vE} {T : Nat → ClassId} {o_p0 : Nat} {a_p0 : Nat → Nat} {o_p2 : Nat} {s_p0_there : Int32} {s_p0_kind : Int32} {s_p0_tag : Int32} {s_p0_size : Int32} {s_p0_lineCount : Int32} {s_p0_sets : Nat → Int64} {x_1 : Int32} {x_3 : Int32} {K_2 : (Int32) → (Nat → Int32) → Prop} {Q : Int32 → (Nat → Int32) → Prop} (X : vX E cX3_rankOf 6 RX3 wsX3_rankOf (vT T) (vr 2 51)) (r : r_X3_rankOf E T o_p0 a_p0 o_p2 s_p0_there s_p0_kind s_p0_tag s_p0_size s_p0_lineCount s_p0_sets Q) (hK_2 : ∀ (x_3' : Int32) (s_p2' : Nat → Int32), K_2 x_3' s_p2' → V E 0 0 2 [(0, .ref o_p0), (1, .int x_1), (2, .ref o_p2), (3, .int x_3')] [] (cl_X3_rankOf T o_p0 a_p0 o_p2 s_p0_there s_p0_kind s_p0_tag s_p0_size s_p0_lineCount s_p0_sets s_p2')) : ∀ (n_ : Nat) (x_4 : Int32) (s_p2 : Nat → Int32), w_X3_rankOf_13 x_1 x_3 s_p0_size s_p0_lineCount s_p0_sets K_2 Q n_ x_4 s_p2 → V E 0 0 13 [(0, .ref o_p0), (1, .int x_1), (2, .ref o_p2), (3, .int x_3), (4, .int x_4)] [] (cl_X3_rankOf T o_p0 a_p0 o_p2 s_p0_there s_p0_kind s_p0_tag s_p0_size s_p0_lineCount s_p0_sets s_p2) := by
  intro n_
  induction n_ with
  | zero => intro x_4 s_p2 h; exact h.elim
  | succ n_ hK_13 =>
    intro x_4 s_p2 h
    replace h : w_X3_rankOf_13s x_1 x_3 s_p0_size s_p0_lineCount s_p0_sets K_2 Q (w_X3_rankOf_13 x_1 x_3 s_p0_size s_p0_lineCount s_p0_sets K_2 Q n_) x_4 s_p2 := h
    unfold w_X3_rankOf_13s at h
    refine v_iload X 4 dX3_rankOf_13 rfl ?_
    refine v_aload_n X 0 dX3_rankOf_15 rfl rfl ?_
    refine v_getN X 0 6 (F := TX5) (N := 8) iX3_rankOf_X5 rfl rfl (by decide) (List.mem_of_getElem? (i := 26) rfl) rfl rfl dX3_rankOf_16 ?_
    refine v_icmp_ge X (tgt := 56) dX3_rankOf_19 (by decide) (fun c_19 => ?_) (fun c_19 => ?_)
    · replace h := h.1 c_19
      refine v_iinc X (v := (x_3 + (1 : Int32))) (lv' := [(3, .int (x_3 + (1 : Int32))), (0, .ref o_p0), (1, .int x_1), (2, .ref o_p2), (4, .int x_4)]) 3 dX3_rankOf_56 rfl rfl (by decide) rfl ?_
      refine v_goto X (tgt := 2) dX3_rankOf_59 (by decide) ?_
      refine v_lv (lv' := [(0, .ref o_p0), (1, .int x_1), (2, .ref o_p2), (3, .int (x_3 + (1 : Int32)))]) [1, 2, 3, 0] rfl ?_
      exact hK_2 _ _ h
    · replace h := h.2 c_19
      refine v_aload_n X 2 dX3_rankOf_22 rfl rfl ?_
      refine v_bipush X dX3_rankOf_23 (v := (45 : Int32)) (by decide) ?_
      refine v_iload_n X 3 dX3_rankOf_25 rfl rfl ?_
      refine v_imul X dX3_rankOf_26 ?_
      refine v_iload X 4 dX3_rankOf_27 rfl ?_
      refine v_iadd X dX3_rankOf_29 ?_
      refine v_aload_n X 0 dX3_rankOf_30 rfl rfl ?_
      refine v_getN X 0 0 (F := TX5) (N := 8) iX3_rankOf_X5 rfl rfl (by decide) (List.mem_of_getElem? (i := 11) rfl) rfl rfl dX3_rankOf_31 ?_
      refine v_iload_n X 3 dX3_rankOf_34 rfl rfl ?_
      refine v_lald X 1 1 rfl rfl h.1 dX3_rankOf_35 ?_
      replace h := h.2
      refine v_iload X 4 dX3_rankOf_36 rfl ?_
      refine v_callNi0 X (As := [.long (s_p0_sets (x_3).toNatClampNeg), .int x_4]) (rest := [.int (((45 : Int32) * x_3) + x_4), .ref o_p2]) 2 (c_X6_has (l := vl E) (D := vD E) (T := T) (x_0 := (s_p0_sets (x_3).toNatClampNeg)) (x_2 := x_4) h) gX3_rankOf_X6_has_n22 (List.mem_of_getElem? (i := 44) rfl) (List.mem_of_getElem? (i := 2) rfl) (List.mem_of_getElem? (i := 1) rfl) rfl rfl (by decide +kernel) ⟨Nat.zero_le _, Nat.zero_le _⟩ ⟨rfl, rfl, by decide, by decide⟩ (Nat.le_of_ble_eq_true rfl) rfl dX3_rankOf_38 (fun r_38 h => ?_)
      refine v_if_eq X (tgt := 48) dX3_rankOf_41 (by decide) (fun c_41 => ?_) (fun c_41 => ?_)
      · replace h := h.1 c_41
        refine v_iconst X dX3_rankOf_48 (v := (0 : Int32)) (by decide) ?_
        exact k_X3_rankOf_49 X r hK_2 hK_13 h
      · replace h := h.2 c_41
        refine v_iconst X dX3_rankOf_44 (v := (1 : Int32)) (by decide) ?_
        refine v_goto X (tgt := 49) dX3_rankOf_45 (by decide) ?_
        exact k_X3_rankOf_49 X r hK_2 hK_13 h
set_option maxHeartbeats 4000000 in
set_option maxRecDepth 100000 in
theorem k_X3_rankOf_2 {E : vE} {T : Nat → ClassId} {o_p0 : Nat} {a_p0 : Nat → Nat} {o_p2 : Nat} {s_p0_there : Int32} {s_p0_kind : Int32} {s_p0_tag : Int32} {s_p0_size : Int32} {s_p0_lineCount : Int32} {s_p0_sets : Nat → Int64} {x_1 : Int32} {Q : Int32 → (Nat → Int32) → Prop} (X : vX E cX3_rankOf 6 RX3 wsX3_rankOf (vT T) (vr 2 51)) (r : r_X3_rankOf E T o_p0 a_p0 o_p2 s_p0_there s_p0_kind s_p0_tag s_p0_size s_p0_lineCount s_p0_sets Q) : ∀ (n_ : Nat) (x_3 : Int32) (s_p2 : Nat → Int32), w_X3_rankOf_2 x_1 s_p0_size s_p0_lineCount s_p0_sets Q n_ x_3 s_p2 → V E 0 0 2 [(0, .ref o_p0), (1, .int x_1), (2, .ref o_p2), (3, .int x_3)] [] (cl_X3_rankOf T o_p0 a_p0 o_p2 s_p0_there s_p0_kind s_p0_tag s_p0_size s_p0_lineCount s_p0_sets s_p2) := by
  intro n_
  induction n_ with
  | zero => intro x_3 s_p2 h; exact h.elim
  | succ n_ hK_2 =>
    intro x_3 s_p2 h
    replace h : w_X3_rankOf_2s x_1 s_p0_size s_p0_lineCount s_p0_sets Q (w_X3_rankOf_2 x_1 s_p0_size s_p0_lineCount s_p0_sets Q n_) x_3 s_p2 := h
    unfold w_X3_rankOf_2s at h
    refine v_iload_n X 3 dX3_rankOf_2 rfl rfl ?_
    refine v_aload_n X 0 dX3_rankOf_3 rfl rfl ?_
    refine v_getN X 0 7 (F := TX5) (N := 8) iX3_rankOf_X5 rfl rfl (by decide) (List.mem_of_getElem? (i := 31) rfl) rfl rfl dX3_rankOf_4 ?_
    refine v_icmp_ge X (tgt := 62) dX3_rankOf_7 (by decide) (fun c_7 => ?_) (fun c_7 => ?_)
    · replace h := h.1 c_7
      refine v_iconst X dX3_rankOf_62 (v := (0 : Int32)) (by decide) ?_
      refine v_istore_n X (lv' := [(3, .int (0 : Int32)), (0, .ref o_p0), (1, .int x_1), (2, .ref o_p2)]) dX3_rankOf_63 rfl (by decide) rfl ?_
      refine v_iconst X dX3_rankOf_64 (v := (0 : Int32)) (by decide) ?_
      refine v_istore X (lv' := [(4, .int (0 : Int32)), (3, .int (0 : Int32)), (0, .ref o_p0), (1, .int x_1), (2, .ref o_p2)]) dX3_rankOf_65 (by decide) rfl ?_
      refine v_lv (lv' := [(0, .ref o_p0), (1, .int x_1), (2, .ref o_p2), (3, .int (0 : Int32)), (4, .int (0 : Int32))]) [2, 3, 4, 1, 0] rfl ?_
      obtain ⟨n_, h⟩ := h
      exact k_X3_rankOf_67 X r n_ _ _ _ h
    · replace h := h.2 c_7
      refine v_iconst X dX3_rankOf_10 (v := (0 : Int32)) (by decide) ?_
      refine v_istore X (lv' := [(4, .int (0 : Int32)), (0, .ref o_p0), (1, .int x_1), (2, .ref o_p2), (3, .int x_3)]) dX3_rankOf_11 (by decide) rfl ?_
      refine v_lv (lv' := [(0, .ref o_p0), (1, .int x_1), (2, .ref o_p2), (3, .int x_3), (4, .int (0 : Int32))]) [1, 2, 3, 4, 0] rfl ?_
      obtain ⟨n_, h⟩ := h
      exact k_X3_rankOf_13 X r hK_2 n_ _ _ h
set_option maxHeartbeats 4000000 in
set_option maxRecDepth 100000 in
theorem c_X3_rankOf {l : Launch} {D : va_G} {T : Nat → ClassId} {o_p0 : Nat} {a_p0 : Nat → Nat} {o_p2 : Nat} {s_p0_there : Int32} {s_p0_kind : Int32} {s_p0_tag : Int32} {s_p0_size : Int32} {s_p0_lineCount : Int32} {s_p0_sets : Nat → Int64} {s_p2 : Nat → Int32} {x_1 : Int32} {Q : Int32 → (Nat → Int32) → Prop} (h : w_X3_rankOf x_1 s_p0_size s_p0_lineCount s_p0_sets s_p2 Q) : vCi l D (vT T) yX3_rankOf wsX3_rankOf (vr 2 51) [.ref o_p0, .int x_1, .ref o_p2] (cl_X3_rankOf T o_p0 a_p0 o_p2 s_p0_there s_p0_kind s_p0_tag s_p0_size s_p0_lineCount s_p0_sets s_p2) (fun v (u : (Nat → Int32)) => Q v u) (fun (u : (Nat → Int32)) => (cl_X3_rankOf T o_p0 a_p0 o_p2 s_p0_there s_p0_kind s_p0_tag s_p0_size s_p0_lineCount s_p0_sets u)) := by
  refine vC_i (cc := cX3_rankOf) (nL := 6) (by decide +kernel) rfl ⟨rfl, rfl⟩ (Nat.le_of_ble_eq_true rfl) rfl ?_
  intro E el eD X r
  unfold w_X3_rankOf at h
  refine v_iconst X dX3_rankOf_0 (v := (0 : Int32)) (by decide) ?_
  refine v_istore_n X (lv' := [(3, .int (0 : Int32)), (0, .ref o_p0), (1, .int x_1), (2, .ref o_p2)]) dX3_rankOf_1 rfl (by decide) rfl ?_
  refine v_lv (lv' := [(0, .ref o_p0), (1, .int x_1), (2, .ref o_p2), (3, .int (0 : Int32))]) [1, 2, 3, 0] rfl ?_
  obtain ⟨n_, h⟩ := h
  exact k_X3_rankOf_2 X r n_ _ _ h