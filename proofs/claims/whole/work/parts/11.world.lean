-- X5_linesMeeting
abbrev cl_X5_linesMeeting (T : Nat → ClassId) (o_p0 : Nat) (a_p0 : Nat → Nat) (s_p0_there : Int32) (s_p0_kind : Int32) (s_p0_tag : Int32) (s_p0_size : Int32) (s_p0_lineCount : Int32) (s_p0_through : Nat → Int64) : va_W := [vO o_p0 2 [.ref (a_p0 0), .ref (a_p0 1), .ref (a_p0 2), .int s_p0_there, .int s_p0_kind, .int s_p0_tag, .int s_p0_size, .int s_p0_lineCount], vJ T (a_p0 1) 45 s_p0_through]
abbrev r_X5_linesMeeting (E : vE) (T : Nat → ClassId) (o_p0 : Nat) (a_p0 : Nat → Nat) (s_p0_there : Int32) (s_p0_kind : Int32) (s_p0_tag : Int32) (s_p0_size : Int32) (s_p0_lineCount : Int32) (s_p0_through : Nat → Int64) (Q : Int64 → Prop) : Prop := vRl E cX5_linesMeeting (fun v (u : Unit) => Q v) (fun (u : Unit) => (cl_X5_linesMeeting T o_p0 a_p0 s_p0_there s_p0_kind s_p0_tag s_p0_size s_p0_lineCount s_p0_through))
def w_X5_linesMeeting_33 (x_1 : Int64) (x_3 : Int64) (x_5 : Int32) (s_p0_size : Int32) (s_p0_through : Nat → Int64) (K_5 : (Int64) → (Int32) → Prop) (Q : Int64 → Prop) : Prop := (K_5 x_3 (x_5 + (1 : Int32)))
def w_X5_linesMeeting_5s (x_1 : Int64) (s_p0_size : Int32) (s_p0_through : Nat → Int64) (Q : Int64 → Prop) (K_5 : (Int64) → (Int32) → Prop) (x_3 : Int64) (x_5 : Int32) : Prop := ((s_p0_size ≤ x_5 → (Q x_3)) ∧ (¬ s_p0_size ≤ x_5 → (w_X6_has x_1 x_5 (fun (r_17 : Int32) => ((r_17 = 0 → (w_X5_linesMeeting_33 x_1 x_3 x_5 s_p0_size s_p0_through K_5 Q)) ∧ (¬ r_17 = 0 → (vp_in x_5 45 ∧ (w_X5_linesMeeting_33 x_1 (x_3 ||| (s_p0_through (x_5).toNatClampNeg)) x_5 s_p0_size s_p0_through K_5 Q))))))))
def w_X5_linesMeeting_5 (x_1 : Int64) (s_p0_size : Int32) (s_p0_through : Nat → Int64) (Q : Int64 → Prop) : Nat → (Int64) → (Int32) → Prop
  | 0 => fun _ _ => False
  | n_ + 1 => w_X5_linesMeeting_5s x_1 s_p0_size s_p0_through Q (w_X5_linesMeeting_5 x_1 s_p0_size s_p0_through Q n_)
def w_X5_linesMeeting (x_1 : Int64) (s_p0_size : Int32) (s_p0_through : Nat → Int64) (Q : Int64 → Prop) : Prop := (∃ n_, w_X5_linesMeeting_5 x_1 s_p0_size s_p0_through Q n_ (0 : Int64) (0 : Int32))
-- X5_linesMeeting
theorem iX5_linesMeeting_X5 : ∀ w ∈ wsX50, w ∈ wsX5_linesMeeting := by decide +kernel
set_option maxHeartbeats 4000000 in
set_option maxRecDepth 100000 in
theorem k_X5_linesMeeting_33 {E : vE} {T : Nat → ClassId} {o_p0 : Nat} {a_p0 : Nat → Nat} {s_p0_there : Int32} {s_p0_kind : Int32} {s_p0_tag : Int32} {s_p0_size : Int32} {s_p0_lineCount : Int32} {s_p0_through : Nat → Int64} {x_1 : Int64} {x_3 : Int64} {x_5 : Int32} {K_5 : (Int64) → (Int32) → Prop} {Q : Int64 → Prop} (X : vX E cX5_linesMeeting 6 RX5 wsX5_linesMeeting (vT T) (vr 1 22)) (r : r_X5_linesMeeting E T o_p0 a_p0 s_p0_there s_p0_kind s_p0_tag s_p0_size s_p0_lineCount s_p0_through Q) (hK_5 : ∀ (x_3' : Int64) (x_5' : Int32), K_5 x_3' x_5' → V E 0 0 5 [(0, .ref o_p0), (1, .long x_1), (3, .long x_3'), (5, .int x_5')] [] (cl_X5_linesMeeting T o_p0 a_p0 s_p0_there s_p0_kind s_p0_tag s_p0_size s_p0_lineCount s_p0_through)) (h : w_X5_linesMeeting_33 x_1 x_3 x_5 s_p0_size s_p0_through K_5 Q) : V E 0 0 33 [(0, .ref o_p0), (1, .long x_1), (3, .long x_3), (5, .int x_5)] [] (cl_X5_linesMeeting T o_p0 a_p0 s_p0_there s_p0_kind s_p0_tag s_p0_size s_p0_lineCount s_p0_through) := by
  unfold w_X5_linesMeeting_33 at h
  refine v_iinc X (v := (x_5 + (1 : Int32))) (lv' := [(5, .int (x_5 + (1 : Int32))), (0, .ref o_p0), (1, .long x_1), (3, .long x_3)]) 3 dX5_linesMeeting_33 rfl rfl (by decide) rfl ?_
  refine v_goto X (tgt := 5) dX5_linesMeeting_36 (by decide) ?_
  refine v_lv (lv' := [(0, .ref o_p0), (1, .long x_1), (3, .long x_3), (5, .int (x_5 + (1 : Int32)))]) [1, 2, 3, 0] rfl ?_
  exact hK_5 _ _ h
set_option maxHeartbeats 4000000 in
set_option maxRecDepth 100000 in
theorem k_X5_linesMeeting_5 {E : vE} {T : Nat → ClassId} {o_p0 : Nat} {a_p0 : Nat → Nat} {s_p0_there : Int32} {s_p0_kind : Int32} {s_p0_tag : Int32} {s_p0_size : Int32} {s_p0_lineCount : Int32} {s_p0_through : Nat → Int64} {x_1 : Int64} {Q : Int64 → Prop} (X : vX E cX5_linesMeeting 6 RX5 wsX5_linesMeeting (vT T) (vr 1 22)) (r : r_X5_linesMeeting E T o_p0 a_p0 s_p0_there s_p0_kind s_p0_tag s_p0_size s_p0_lineCount s_p0_through Q) : ∀ (n_ : Nat) (x_3 : Int64) (x_5 : Int32), w_X5_linesMeeting_5 x_1 s_p0_size s_p0_through Q n_ x_3 x_5 → V E 0 0 5 [(0, .ref o_p0), (1, .long x_1), (3, .long x_3), (5, .int x_5)] [] (cl_X5_linesMeeting T o_p0 a_p0 s_p0_there s_p0_kind s_p0_tag s_p0_size s_p0_lineCount s_p0_through) := by
  intro n_
  induction n_ with
  | zero => intro x_3 x_5 h; exact h.elim
  | succ n_ hK_5 =>
    intro x_3 x_5 h
    replace h : w_X5_linesMeeting_5s x_1 s_p0_size s_p0_through Q (w_X5_linesMeeting_5 x_1 s_p0_size s_p0_through Q n_) x_3 x_5 := h
    unfold w_X5_linesMeeting_5s at h
    refine v_iload X 3 dX5_linesMeeting_5 rfl ?_
    refine v_aload_n X 0 dX5_linesMeeting_7 rfl rfl ?_
    refine v_get X 0 6 (F := TX5) (N := 8) iX5_linesMeeting_X5 rfl rfl (by decide) (List.mem_of_getElem? (i := 1) rfl) rfl rfl dX5_linesMeeting_8 ?_
    refine v_icmp_ge X (tgt := 39) dX5_linesMeeting_11 (by decide) (fun c_11 => ?_) (fun c_11 => ?_)
    · replace h := h.1 c_11
      refine v_lload_n X 2 dX5_linesMeeting_39 rfl rfl ?_
      exact r _ _ _ () _ dX5_linesMeeting_40 h rfl
    · replace h := h.2 c_11
      refine v_lload_n X 1 dX5_linesMeeting_14 rfl rfl ?_
      refine v_iload X 3 dX5_linesMeeting_15 rfl ?_
      refine v_callNi0 X (As := [.long x_1, .int x_5]) (rest := []) 2 (c_X6_has (l := vl E) (D := vD E) (T := T) (x_0 := x_1) (x_2 := x_5) h) gX5_linesMeeting_X6_has_n38 (List.mem_of_getElem? (i := 36) rfl) (List.mem_of_getElem? (i := 4) rfl) (List.mem_of_getElem? (i := 3) rfl) rfl rfl (by decide +kernel) ⟨Nat.zero_le _, Nat.zero_le _⟩ ⟨rfl, rfl, by decide, by decide⟩ (Nat.le_of_ble_eq_true rfl) rfl dX5_linesMeeting_17 (fun r_17 h => ?_)
      refine v_if_eq X (tgt := 33) dX5_linesMeeting_20 (by decide) (fun c_20 => ?_) (fun c_20 => ?_)
      · replace h := h.1 c_20
        exact k_X5_linesMeeting_33 X r hK_5 h
      · replace h := h.2 c_20
        refine v_lload_n X 2 dX5_linesMeeting_23 rfl rfl ?_
        refine v_aload_n X 0 dX5_linesMeeting_24 rfl rfl ?_
        refine v_get X 0 1 (F := TX5) (N := 8) iX5_linesMeeting_X5 rfl rfl (by decide) (List.mem_of_getElem? (i := 2) rfl) rfl rfl dX5_linesMeeting_25 ?_
        refine v_iload X 3 dX5_linesMeeting_28 rfl ?_
        refine v_lald X 1 1 rfl rfl h.1 dX5_linesMeeting_30 ?_
        replace h := h.2
        refine v_lor X dX5_linesMeeting_31 ?_
        refine v_lstore_n X (lv' := [(3, .long (x_3 ||| (s_p0_through (x_5).toNatClampNeg))), (0, .ref o_p0), (1, .long x_1), (5, .int x_5)]) dX5_linesMeeting_32 rfl (by decide) rfl ?_
        refine v_lv (lv' := [(0, .ref o_p0), (1, .long x_1), (3, .long (x_3 ||| (s_p0_through (x_5).toNatClampNeg))), (5, .int x_5)]) [1, 2, 0, 3] rfl ?_
        exact k_X5_linesMeeting_33 X r hK_5 h
set_option maxHeartbeats 4000000 in
set_option maxRecDepth 100000 in
theorem c_X5_linesMeeting {l : Launch} {D : va_G} {T : Nat → ClassId} {o_p0 : Nat} {a_p0 : Nat → Nat} {s_p0_there : Int32} {s_p0_kind : Int32} {s_p0_tag : Int32} {s_p0_size : Int32} {s_p0_lineCount : Int32} {s_p0_through : Nat → Int64} {x_1 : Int64} {Q : Int64 → Prop} (h : w_X5_linesMeeting x_1 s_p0_size s_p0_through Q) : vCl l D (vT T) yX5_linesMeeting wsX5_linesMeeting (vr 1 22) [.ref o_p0, .long x_1] (cl_X5_linesMeeting T o_p0 a_p0 s_p0_there s_p0_kind s_p0_tag s_p0_size s_p0_lineCount s_p0_through) (fun v (u : Unit) => Q v) (fun (u : Unit) => (cl_X5_linesMeeting T o_p0 a_p0 s_p0_there s_p0_kind s_p0_tag s_p0_size s_p0_lineCount s_p0_through)) := by
  refine vC_l (cc := cX5_linesMeeting) (nL := 6) (by decide +kernel) rfl ⟨rfl, rfl⟩ (Nat.le_of_ble_eq_true rfl) rfl ?_
  intro E el eD X r
  unfold w_X5_linesMeeting at h
  refine v_lconst X dX5_linesMeeting_0 (v := (0 : Int64)) (by decide) ?_
  refine v_lstore_n X (lv' := [(3, .long (0 : Int64)), (0, .ref o_p0), (1, .long x_1)]) dX5_linesMeeting_1 rfl (by decide) rfl ?_
  refine v_iconst X dX5_linesMeeting_2 (v := (0 : Int32)) (by decide) ?_
  refine v_istore X (lv' := [(5, .int (0 : Int32)), (3, .long (0 : Int64)), (0, .ref o_p0), (1, .long x_1)]) dX5_linesMeeting_3 (by decide) rfl ?_
  refine v_lv (lv' := [(0, .ref o_p0), (1, .long x_1), (3, .long (0 : Int64)), (5, .int (0 : Int32))]) [2, 3, 1, 0] rfl ?_
  obtain ⟨n_, h⟩ := h
  exact k_X5_linesMeeting_5 X r n_ _ _ h
-- X5_add
abbrev cl_X5_add (T : Nat → ClassId) (o_p0 : Nat) (a_p0 : Nat → Nat) (s_p0_there : Int32) (s_p0_kind : Int32) (s_p0_tag : Int32) (s_p0_size : Int32) (s_p0_lineCount : Int32) (s_p0_near : Nat → Int64) (s_p0_sets : Nat → Int64) (s_p0_through : Nat → Int64) : va_W := [vO o_p0 2 [.ref (a_p0 0), .ref (a_p0 1), .ref (a_p0 2), .int s_p0_there, .int s_p0_kind, .int s_p0_tag, .int s_p0_size, .int s_p0_lineCount], vJ T (a_p0 2) 45 s_p0_near, vJ T (a_p0 0) 45 s_p0_sets, vJ T (a_p0 1) 45 s_p0_through]
abbrev r_X5_add (E : vE) (T : Nat → ClassId) (o_p0 : Nat) (a_p0 : Nat → Nat) (s_p0_there : Int32) (s_p0_kind : Int32) (s_p0_tag : Int32) (s_p0_size : Int32) (Q : Int32 → (Int32) → (Nat → Int64) → (Nat → Int64) → (Nat → Int64) → Prop) : Prop := vRz E cX5_add (fun v (u : (Int32) × (Nat → Int64) × (Nat → Int64) × (Nat → Int64)) => Q v u.1 u.2.1 u.2.2.1 u.2.2.2) (fun (u : (Int32) × (Nat → Int64) × (Nat → Int64) × (Nat → Int64)) => (cl_X5_add T o_p0 a_p0 s_p0_there s_p0_kind s_p0_tag s_p0_size u.1 u.2.1 u.2.2.1 u.2.2.2))
def w_X5_add_64 (x_1 : Int64) (x_3 : Int32) (s_p0_size : Int32) (s_p0_lineCount : Int32) (s_p0_near : Nat → Int64) (s_p0_sets : Nat → Int64) (s_p0_through : Nat → Int64) (K_23 : (Int32) → (Nat → Int64) → (Nat → Int64) → Prop) (Q : Int32 → (Int32) → (Nat → Int64) → (Nat → Int64) → (Nat → Int64) → Prop) : Prop := (K_23 (x_3 + (1 : Int32)) s_p0_near s_p0_through)
def w_X5_add_23s (x_1 : Int64) (s_p0_size : Int32) (s_p0_lineCount : Int32) (s_p0_sets : Nat → Int64) (Q : Int32 → (Int32) → (Nat → Int64) → (Nat → Int64) → (Nat → Int64) → Prop) (K_23 : (Int32) → (Nat → Int64) → (Nat → Int64) → Prop) (x_3 : Int32) (s_p0_near : Nat → Int64) (s_p0_through : Nat → Int64) : Prop := ((s_p0_size ≤ x_3 → (vz (1 : Int32) ∧ Q (1 : Int32) (s_p0_lineCount + (1 : Int32)) s_p0_near s_p0_sets s_p0_through)) ∧ (¬ s_p0_size ≤ x_3 → (w_X6_has x_1 x_3 (fun (r_33 : Int32) => ((r_33 = 0 → (w_X5_add_64 x_1 x_3 s_p0_size s_p0_lineCount s_p0_near s_p0_sets s_p0_through K_23 Q)) ∧ (¬ r_33 = 0 → (vp_in x_3 45 ∧ (vp_in x_3 45 ∧ (vp_in x_3 45 ∧ (vp_in x_3 45 ∧ (w_X5_add_64 x_1 x_3 s_p0_size s_p0_lineCount (vp_updL s_p0_near (x_3).toNatClampNeg ((s_p0_near (x_3).toNatClampNeg) ||| x_1)) s_p0_sets (vp_updL s_p0_through (x_3).toNatClampNeg ((s_p0_through (x_3).toNatClampNeg) ||| (vshl (1 : Int64) s_p0_lineCount))) K_23 Q)))))))))))
def w_X5_add_23 (x_1 : Int64) (s_p0_size : Int32) (s_p0_lineCount : Int32) (s_p0_sets : Nat → Int64) (Q : Int32 → (Int32) → (Nat → Int64) → (Nat → Int64) → (Nat → Int64) → Prop) : Nat → (Int32) → (Nat → Int64) → (Nat → Int64) → Prop
  | 0 => fun _ _ _ => False
  | n_ + 1 => w_X5_add_23s x_1 s_p0_size s_p0_lineCount s_p0_sets Q (w_X5_add_23 x_1 s_p0_size s_p0_lineCount s_p0_sets Q n_)
def w_X5_add (x_1 : Int64) (s_p0_size : Int32) (s_p0_lineCount : Int32) (s_p0_near : Nat → Int64) (s_p0_sets : Nat → Int64) (s_p0_through : Nat → Int64) (Q : Int32 → (Int32) → (Nat → Int64) → (Nat → Int64) → (Nat → Int64) → Prop) : Prop := ((s_p0_lineCount < (45 : Int32) → (vp_in s_p0_lineCount 45 ∧ (∃ n_, w_X5_add_23 x_1 s_p0_size s_p0_lineCount (vp_updL s_p0_sets (s_p0_lineCount).toNatClampNeg x_1) Q n_ (0 : Int32) s_p0_near s_p0_through))) ∧ (¬ s_p0_lineCount < (45 : Int32) → (vz (0 : Int32) ∧ Q (0 : Int32) s_p0_lineCount s_p0_near s_p0_sets s_p0_through)))
-- X5_add
theorem iX5_add_X5 : ∀ w ∈ wsX50, w ∈ wsX5_add := by decide +kernel
set_option maxHeartbeats 4000000 in
set_option maxRecDepth 100000 in
theorem k_X5_add_64 {E : vE} {T : Nat → ClassId} {o_p0 : Nat} {a_p0 : Nat → Nat} {s_p0_there : Int32} {s_p0_kind : Int32} {s_p0_tag : Int32} {s_p0_size : Int32} {s_p0_lineCount : Int32} {s_p0_near : Nat → Int64} {s_p0_sets : Nat → Int64} {s_p0_through : Nat → Int64} {x_1 : Int64} {x_3 : Int32} {K_23 : (Int32) → (Nat → Int64) → (Nat → Int64) → Prop} {Q : Int32 → (Int32) → (Nat → Int64) → (Nat → Int64) → (Nat → Int64) → Prop} (X : vX E cX5_add 4 RX5 wsX5_add (vT T) (vr 1 22)) (r : r_X5_add E T o_p0 a_p0 s_p0_there s_p0_kind s_p0_tag s_p0_size Q) (hK_23 : ∀ (x_3' : Int32) (s_p0_near' : Nat → Int64) (s_p0_through' : Nat → Int64), K_23 x_3' s_p0_near' s_p0_through' → V E 0 0 23 [(0, .ref o_p0), (1, .long x_1), (3, .int x_3')] [] (cl_X5_add T o_p0 a_p0 s_p0_there s_p0_kind s_p0_tag s_p0_size s_p0_lineCount s_p0_near' s_p0_sets s_p0_through')) (h : w_X5_add_64 x_1 x_3 s_p0_size s_p0_lineCount s_p0_near s_p0_sets s_p0_through K_23 Q) : V E 0 0 64 [(0, .ref o_p0), (1, .long x_1), (3, .int x_3)] [] (cl_X5_add T o_p0 a_p0 s_p0_there s_p0_kind s_p0_tag s_p0_size s_p0_lineCount s_p0_near s_p0_sets s_p0_through) := by
  unfold w_X5_add_64 at h
  refine v_iinc X (v := (x_3 + (1 : Int32))) (lv' := [(3, .int (x_3 + (1 : Int32))), (0, .ref o_p0), (1, .long x_1)]) 2 dX5_add_64 rfl rfl (by decide) rfl ?_
  refine v_goto X (tgt := 23) dX5_add_67 (by decide) ?_
  refine v_lv (lv' := [(0, .ref o_p0), (1, .long x_1), (3, .int (x_3 + (1 : Int32)))]) [1, 2, 0] rfl ?_
  exact hK_23 _ _ _ h
set_option maxHeartbeats 4000000 in
set_option maxRecDepth 100000 in
theorem k_X5_add_23 {E : vE} {T : Nat → ClassId} {o_p0 : Nat} {a_p0 : Nat → Nat} {s_p0_there : Int32} {s_p0_kind : Int32} {s_p0_tag : Int32} {s_p0_size : Int32} {s_p0_lineCount : Int32} {s_p0_sets : Nat → Int64} {x_1 : Int64} {Q : Int32 → (Int32) → (Nat → Int64) → (Nat → Int64) → (Nat → Int64) → Prop} (X : vX E cX5_add 4 RX5 wsX5_add (vT T) (vr 1 22)) (r : r_X5_add E T o_p0 a_p0 s_p0_there s_p0_kind s_p0_tag s_p0_size Q) : ∀ (n_ : Nat) (x_3 : Int32) (s_p0_near : Nat → Int64) (s_p0_through : Nat → Int64), w_X5_add_23 x_1 s_p0_size s_p0_lineCount s_p0_sets Q n_ x_3 s_p0_near s_p0_through → V E 0 0 23 [(0, .ref o_p0), (1, .long x_1), (3, .int x_3)] [] (cl_X5_add T o_p0 a_p0 s_p0_there s_p0_kind s_p0_tag s_p0_size s_p0_lineCount s_p0_near s_p0_sets s_p0_through) := by
  intro n_
  induction n_ with
  | zero => intro x_3 s_p0_near s_p0_through h; exact h.elim
  | succ n_ hK_23 =>
    intro x_3 s_p0_near s_p0_through h
    replace h : w_X5_add_23s x_1 s_p0_size s_p0_lineCount s_p0_sets Q (w_X5_add_23 x_1 s_p0_size s_p0_lineCount s_p0_sets Q n_) x_3 s_p0_near s_p0_through := h
    unfold w_X5_add_23s at h
    refine v_iload_n X 2 dX5_add_23 rfl rfl ?_
    refine v_aload_n X 0 dX5_add_24 rfl rfl ?_
    refine v_get X 0 6 (F := TX5) (N := 8) iX5_add_X5 rfl rfl (by decide) (List.mem_of_getElem? (i := 3) rfl) rfl rfl dX5_add_25 ?_
    refine v_icmp_ge X (tgt := 70) dX5_add_28 (by decide) (fun c_28 => ?_) (fun c_28 => ?_)
    · replace h := h.1 c_28
      refine v_aload_n X 0 dX5_add_70 rfl rfl ?_
      refine v_dup X dX5_add_71 rfl ?_
      refine v_get X 0 7 (F := TX5) (N := 8) iX5_add_X5 rfl rfl (by decide) (List.mem_of_getElem? (i := 1) rfl) rfl rfl dX5_add_72 ?_
      refine v_iconst X dX5_add_75 (v := (1 : Int32)) (by decide) ?_
      refine v_iadd X dX5_add_76 ?_
      refine v_put X (ws' := (cl_X5_add T o_p0 a_p0 s_p0_there s_p0_kind s_p0_tag s_p0_size (s_p0_lineCount + (1 : Int32)) s_p0_near s_p0_sets s_p0_through)) 0 7 (F := TX5) (N := 8) iX5_add_X5 rfl tyX5 tyX5_ok nmX5 rfl (by decide) (List.mem_of_getElem? (i := 1) rfl) rfl rfl rfl rfl rfl (Nat.le_of_ble_eq_true rfl) rfl dX5_add_77 ?_
      refine v_iconst X dX5_add_80 (v := (1 : Int32)) (by decide) ?_
      exact r _ _ _ ((s_p0_lineCount + (1 : Int32)), s_p0_near, s_p0_sets, s_p0_through) _ dX5_add_81 h.1 h.2 rfl
    · replace h := h.2 c_28
      refine v_lload_n X 1 dX5_add_31 rfl rfl ?_
      refine v_iload_n X 2 dX5_add_32 rfl rfl ?_
      refine v_callNi0 X (As := [.long x_1, .int x_3]) (rest := []) 2 (c_X6_has (l := vl E) (D := vD E) (T := T) (x_0 := x_1) (x_2 := x_3) h) gX5_add_X6_has_n38 (List.mem_of_getElem? (i := 36) rfl) (List.mem_of_getElem? (i := 7) rfl) (List.mem_of_getElem? (i := 6) rfl) rfl rfl (by decide +kernel) ⟨Nat.zero_le _, Nat.zero_le _⟩ ⟨rfl, rfl, by decide, by decide⟩ (Nat.le_of_ble_eq_true rfl) rfl dX5_add_33 (fun r_33 h => ?_)
      refine v_if_eq X (tgt := 64) dX5_add_36 (by decide) (fun c_36 => ?_) (fun c_36 => ?_)
      · replace h := h.1 c_36
        exact k_X5_add_64 X r hK_23 h
      · replace h := h.2 c_36
        refine v_aload_n X 0 dX5_add_39 rfl rfl ?_
        refine v_get X 0 1 (F := TX5) (N := 8) iX5_add_X5 rfl rfl (by decide) (List.mem_of_getElem? (i := 4) rfl) rfl rfl dX5_add_40 ?_
        refine v_iload_n X 2 dX5_add_43 rfl rfl ?_
        refine v_dup2_11 X dX5_add_44 rfl rfl ?_
        refine v_lald X 3 1 rfl rfl h.1 dX5_add_45 ?_
        replace h := h.2
        refine v_lconst X dX5_add_46 (v := (1 : Int64)) (by decide) ?_
        refine v_aload_n X 0 dX5_add_47 rfl rfl ?_
        refine v_get X 0 7 (F := TX5) (N := 8) iX5_add_X5 rfl rfl (by decide) (List.mem_of_getElem? (i := 1) rfl) rfl rfl dX5_add_48 ?_
        refine v_lshl X dX5_add_51 ?_
        refine v_lor X dX5_add_52 ?_
        refine v_last X (ws' := (cl_X5_add T o_p0 a_p0 s_p0_there s_p0_kind s_p0_tag s_p0_size s_p0_lineCount s_p0_near s_p0_sets (vp_updL s_p0_through (x_3).toNatClampNeg ((s_p0_through (x_3).toNatClampNeg) ||| (vshl (1 : Int64) s_p0_lineCount))))) 3 1 rfl rfl h.1 rfl dX5_add_53 ?_
        replace h := h.2
        refine v_aload_n X 0 dX5_add_54 rfl rfl ?_
        refine v_get X 0 2 (F := TX5) (N := 8) iX5_add_X5 rfl rfl (by decide) (List.mem_of_getElem? (i := 5) rfl) rfl rfl dX5_add_55 ?_
        refine v_iload_n X 2 dX5_add_58 rfl rfl ?_
        refine v_dup2_11 X dX5_add_59 rfl rfl ?_
        refine v_lald X 1 1 rfl rfl h.1 dX5_add_60 ?_
        replace h := h.2
        refine v_lload_n X 1 dX5_add_61 rfl rfl ?_
        refine v_lor X dX5_add_62 ?_
        refine v_last X (ws' := (cl_X5_add T o_p0 a_p0 s_p0_there s_p0_kind s_p0_tag s_p0_size s_p0_lineCount (vp_updL s_p0_near (x_3).toNatClampNeg ((s_p0_near (x_3).toNatClampNeg) ||| x_1)) s_p0_sets (vp_updL s_p0_through (x_3).toNatClampNeg ((s_p0_through (x_3).toNatClampNeg) ||| (vshl (1 : Int64) s_p0_lineCount))))) 1 1 rfl rfl h.1 rfl dX5_add_63 ?_
        replace h := h.2
        exact k_X5_add_64 X r hK_23 h
set_option maxHeartbeats 4000000 in
set_option maxRecDepth 100000 in
theorem c_X5_add {l : Launch} {D : va_G} {T : Nat → ClassId} {o_p0 : Nat} {a_p0 : Nat → Nat} {s_p0_there : Int32} {s_p0_kind : Int32} {s_p0_tag : Int32} {s_p0_size : Int32} {s_p0_lineCount : Int32} {s_p0_near : Nat → Int64} {s_p0_sets : Nat → Int64} {s_p0_through : Nat → Int64} {x_1 : Int64} {Q : Int32 → (Int32) → (Nat → Int64) → (Nat → Int64) → (Nat → Int64) → Prop} (h : w_X5_add x_1 s_p0_size s_p0_lineCount s_p0_near s_p0_sets s_p0_through Q) : vCi l D (vT T) yX5_add wsX5_add (vr 1 22) [.ref o_p0, .long x_1] (cl_X5_add T o_p0 a_p0 s_p0_there s_p0_kind s_p0_tag s_p0_size s_p0_lineCount s_p0_near s_p0_sets s_p0_through) (fun v (u : (Int32) × (Nat → Int64) × (Nat → Int64) × (Nat → Int64)) => Q v u.1 u.2.1 u.2.2.1 u.2.2.2) (fun (u : (Int32) × (Nat → Int64) × (Nat → Int64) × (Nat → Int64)) => (cl_X5_add T o_p0 a_p0 s_p0_there s_p0_kind s_p0_tag s_p0_size u.1 u.2.1 u.2.2.1 u.2.2.2)) := by
  refine vC_z (cc := cX5_add) (nL := 4) (by decide +kernel) rfl ⟨rfl, rfl⟩ (Nat.le_of_ble_eq_true rfl) rfl ?_
  intro E el eD X r
  unfold w_X5_add at h
  refine v_aload_n X 0 dX5_add_0 rfl rfl ?_
  refine v_get X 0 7 (F := TX5) (N := 8) iX5_add_X5 rfl rfl (by decide) (List.mem_of_getElem? (i := 1) rfl) rfl rfl dX5_add_1 ?_
  refine v_bipush X dX5_add_4 (v := (45 : Int32)) (by decide) ?_
  refine v_icmp_lt X (tgt := 11) dX5_add_6 (by decide) (fun c_6 => ?_) (fun c_6 => ?_)
  · replace h := h.1 c_6
    refine v_aload_n X 0 dX5_add_11 rfl rfl ?_
    refine v_get X 0 0 (F := TX5) (N := 8) iX5_add_X5 rfl rfl (by decide) (List.mem_of_getElem? (i := 2) rfl) rfl rfl dX5_add_12 ?_
    refine v_aload_n X 0 dX5_add_15 rfl rfl ?_
    refine v_get X 0 7 (F := TX5) (N := 8) iX5_add_X5 rfl rfl (by decide) (List.mem_of_getElem? (i := 1) rfl) rfl rfl dX5_add_16 ?_
    refine v_lload_n X 1 dX5_add_19 rfl rfl ?_
    refine v_last X (ws' := (cl_X5_add T o_p0 a_p0 s_p0_there s_p0_kind s_p0_tag s_p0_size s_p0_lineCount s_p0_near (vp_updL s_p0_sets (s_p0_lineCount).toNatClampNeg x_1) s_p0_through)) 2 1 rfl rfl h.1 rfl dX5_add_20 ?_
    replace h := h.2
    refine v_iconst X dX5_add_21 (v := (0 : Int32)) (by decide) ?_
    refine v_istore_n X (lv' := [(3, .int (0 : Int32)), (0, .ref o_p0), (1, .long x_1)]) dX5_add_22 rfl (by decide) rfl ?_
    refine v_lv (lv' := [(0, .ref o_p0), (1, .long x_1), (3, .int (0 : Int32))]) [1, 2, 0] rfl ?_
    obtain ⟨n_, h⟩ := h
    exact k_X5_add_23 X r n_ _ _ _ h
  · replace h := h.2 c_6
    refine v_iconst X dX5_add_9 (v := (0 : Int32)) (by decide) ?_
    exact r _ _ _ (s_p0_lineCount, s_p0_near, s_p0_sets, s_p0_through) _ dX5_add_10 h.1 h.2 rfl
-- X5_begin
abbrev cl_X5_begin (T : Nat → ClassId) (o_p0 : Nat) (a_p0 : Nat → Nat) (s_p0_there : Int32) (s_p0_kind : Int32) (s_p0_tag : Int32) (s_p0_size : Int32) (s_p0_lineCount : Int32) (s_p0_near : Nat → Int64) (s_p0_through : Nat → Int64) : va_W := [vO o_p0 2 [.ref (a_p0 0), .ref (a_p0 1), .ref (a_p0 2), .int s_p0_there, .int s_p0_kind, .int s_p0_tag, .int s_p0_size, .int s_p0_lineCount], vJ T (a_p0 2) 45 s_p0_near, vJ T (a_p0 1) 45 s_p0_through]
abbrev r_X5_begin (E : vE) (T : Nat → ClassId) (o_p0 : Nat) (a_p0 : Nat → Nat) (Q : (Int32) → (Int32) → (Int32) → (Int32) → (Int32) → (Nat → Int64) → (Nat → Int64) → Prop) : Prop := vRv E cX5_begin (fun (u : (Int32) × (Int32) × (Int32) × (Int32) × (Int32) × (Nat → Int64) × (Nat → Int64)) => Q u.1 u.2.1 u.2.2.1 u.2.2.2.1 u.2.2.2.2.1 u.2.2.2.2.2.1 u.2.2.2.2.2.2) (fun (u : (Int32) × (Int32) × (Int32) × (Int32) × (Int32) × (Nat → Int64) × (Nat → Int64)) => (cl_X5_begin T o_p0 a_p0 u.1 u.2.1 u.2.2.1 u.2.2.2.1 u.2.2.2.2.1 u.2.2.2.2.2.1 u.2.2.2.2.2.2))
def w_X5_begin_28s (s_p0_there : Int32) (s_p0_kind : Int32) (s_p0_tag : Int32) (s_p0_size : Int32) (s_p0_lineCount : Int32) (Q : (Int32) → (Int32) → (Int32) → (Int32) → (Int32) → (Nat → Int64) → (Nat → Int64) → Prop) (K_28 : (Int32) → (Nat → Int64) → (Nat → Int64) → Prop) (x_4 : Int32) (s_p0_near : Nat → Int64) (s_p0_through : Nat → Int64) : Prop := (((45 : Int32) ≤ x_4 → (Q s_p0_there s_p0_kind s_p0_tag s_p0_size s_p0_lineCount s_p0_near s_p0_through)) ∧ (¬ (45 : Int32) ≤ x_4 → (vp_in x_4 45 ∧ (vp_in x_4 45 ∧ (K_28 (x_4 + (1 : Int32)) (vp_updL s_p0_near (x_4).toNatClampNeg (vshl (1 : Int64) x_4)) (vp_updL s_p0_through (x_4).toNatClampNeg (0 : Int64)))))))
def w_X5_begin_28 (s_p0_there : Int32) (s_p0_kind : Int32) (s_p0_tag : Int32) (s_p0_size : Int32) (s_p0_lineCount : Int32) (Q : (Int32) → (Int32) → (Int32) → (Int32) → (Int32) → (Nat → Int64) → (Nat → Int64) → Prop) : Nat → (Int32) → (Nat → Int64) → (Nat → Int64) → Prop
  | 0 => fun _ _ _ => False
  | n_ + 1 => w_X5_begin_28s s_p0_there s_p0_kind s_p0_tag s_p0_size s_p0_lineCount Q (w_X5_begin_28 s_p0_there s_p0_kind s_p0_tag s_p0_size s_p0_lineCount Q n_)
def w_X5_begin (x_1 : Int32) (x_2 : Int32) (x_3 : Int32) (s_p0_there : Int32) (s_p0_kind : Int32) (s_p0_tag : Int32) (s_p0_size : Int32) (s_p0_lineCount : Int32) (s_p0_near : Nat → Int64) (s_p0_through : Nat → Int64) (Q : (Int32) → (Int32) → (Int32) → (Int32) → (Int32) → (Nat → Int64) → (Nat → Int64) → Prop) : Prop := (∃ n_, w_X5_begin_28 (1 : Int32) x_1 x_3 x_2 (0 : Int32) Q n_ (0 : Int32) s_p0_near s_p0_through)
-- X5_begin
theorem iX5_begin_X5 : ∀ w ∈ wsX50, w ∈ wsX5_begin := by decide +kernel
set_option maxHeartbeats 4000000 in
set_option maxRecDepth 100000 in
theorem k_X5_begin_28 {E : vE} {T : Nat → ClassId} {o_p0 : Nat} {a_p0 : Nat → Nat} {s_p0_there : Int32} {s_p0_kind : Int32} {s_p0_tag : Int32} {s_p0_size : Int32} {s_p0_lineCount : Int32} {Q : (Int32) → (Int32) → (Int32) → (Int32) → (Int32) → (Nat → Int64) → (Nat → Int64) → Prop} (X : vX E cX5_begin 5 RX5 wsX5_begin (vT T) (vr 0 0)) (r : r_X5_begin E T o_p0 a_p0 Q) : ∀ (n_ : Nat) (x_4 : Int32) (s_p0_near : Nat → Int64) (s_p0_through : Nat → Int64), w_X5_begin_28 s_p0_there s_p0_kind s_p0_tag s_p0_size s_p0_lineCount Q n_ x_4 s_p0_near s_p0_through → V E 0 0 28 [(0, .ref o_p0), (4, .int x_4)] [] (cl_X5_begin T o_p0 a_p0 s_p0_there s_p0_kind s_p0_tag s_p0_size s_p0_lineCount s_p0_near s_p0_through) := by
  intro n_
  induction n_ with
  | zero => intro x_4 s_p0_near s_p0_through h; exact h.elim
  | succ n_ hK_28 =>
    intro x_4 s_p0_near s_p0_through h
    replace h : w_X5_begin_28s s_p0_there s_p0_kind s_p0_tag s_p0_size s_p0_lineCount Q (w_X5_begin_28 s_p0_there s_p0_kind s_p0_tag s_p0_size s_p0_lineCount Q n_) x_4 s_p0_near s_p0_through := h
    unfold w_X5_begin_28s at h
    refine v_iload X 1 dX5_begin_28 rfl ?_
    refine v_bipush X dX5_begin_30 (v := (45 : Int32)) (by decide) ?_
    refine v_icmp_ge X (tgt := 60) dX5_begin_32 (by decide) (fun c_32 => ?_) (fun c_32 => ?_)
    · replace h := h.1 c_32
      exact r _ _ (s_p0_there, s_p0_kind, s_p0_tag, s_p0_size, s_p0_lineCount, s_p0_near, s_p0_through) _ dX5_begin_60 h rfl
    · replace h := h.2 c_32
      refine v_aload_n X 0 dX5_begin_35 rfl rfl ?_
      refine v_get X 0 1 (F := TX5) (N := 8) iX5_begin_X5 rfl rfl (by decide) (List.mem_of_getElem? (i := 6) rfl) rfl rfl dX5_begin_36 ?_
      refine v_iload X 1 dX5_begin_39 rfl ?_
      refine v_lconst X dX5_begin_41 (v := (0 : Int64)) (by decide) ?_
      refine v_last X (ws' := (cl_X5_begin T o_p0 a_p0 s_p0_there s_p0_kind s_p0_tag s_p0_size s_p0_lineCount s_p0_near (vp_updL s_p0_through (x_4).toNatClampNeg (0 : Int64)))) 2 1 rfl rfl h.1 rfl dX5_begin_42 ?_
      replace h := h.2
      refine v_aload_n X 0 dX5_begin_43 rfl rfl ?_
      refine v_get X 0 2 (F := TX5) (N := 8) iX5_begin_X5 rfl rfl (by decide) (List.mem_of_getElem? (i := 7) rfl) rfl rfl dX5_begin_44 ?_
      refine v_iload X 1 dX5_begin_47 rfl ?_
      refine v_lconst X dX5_begin_49 (v := (1 : Int64)) (by decide) ?_
      refine v_iload X 1 dX5_begin_50 rfl ?_
      refine v_lshl X dX5_begin_52 ?_
      refine v_last X (ws' := (cl_X5_begin T o_p0 a_p0 s_p0_there s_p0_kind s_p0_tag s_p0_size s_p0_lineCount (vp_updL s_p0_near (x_4).toNatClampNeg (vshl (1 : Int64) x_4)) (vp_updL s_p0_through (x_4).toNatClampNeg (0 : Int64)))) 1 1 rfl rfl h.1 rfl dX5_begin_53 ?_
      replace h := h.2
      refine v_iinc X (v := (x_4 + (1 : Int32))) (lv' := [(4, .int (x_4 + (1 : Int32))), (0, .ref o_p0)]) 1 dX5_begin_54 rfl rfl (by decide) rfl ?_
      refine v_goto X (tgt := 28) dX5_begin_57 (by decide) ?_
      refine v_lv (lv' := [(0, .ref o_p0), (4, .int (x_4 + (1 : Int32)))]) [1, 0] rfl ?_
      exact hK_28 _ _ _ h
set_option maxHeartbeats 4000000 in
set_option maxRecDepth 100000 in
theorem c_X5_begin {l : Launch} {D : va_G} {T : Nat → ClassId} {o_p0 : Nat} {a_p0 : Nat → Nat} {s_p0_there : Int32} {s_p0_kind : Int32} {s_p0_tag : Int32} {s_p0_size : Int32} {s_p0_lineCount : Int32} {s_p0_near : Nat → Int64} {s_p0_through : Nat → Int64} {x_1 : Int32} {x_2 : Int32} {x_3 : Int32} {Q : (Int32) → (Int32) → (Int32) → (Int32) → (Int32) → (Nat → Int64) → (Nat → Int64) → Prop} (h : w_X5_begin x_1 x_2 x_3 s_p0_there s_p0_kind s_p0_tag s_p0_size s_p0_lineCount s_p0_near s_p0_through Q) : vCv l D (vT T) yX5_begin wsX5_begin (vr 0 0) [.ref o_p0, .int x_1, .int x_2, .int x_3] (cl_X5_begin T o_p0 a_p0 s_p0_there s_p0_kind s_p0_tag s_p0_size s_p0_lineCount s_p0_near s_p0_through) (fun (u : (Int32) × (Int32) × (Int32) × (Int32) × (Int32) × (Nat → Int64) × (Nat → Int64)) => Q u.1 u.2.1 u.2.2.1 u.2.2.2.1 u.2.2.2.2.1 u.2.2.2.2.2.1 u.2.2.2.2.2.2) (fun (u : (Int32) × (Int32) × (Int32) × (Int32) × (Int32) × (Nat → Int64) × (Nat → Int64)) => (cl_X5_begin T o_p0 a_p0 u.1 u.2.1 u.2.2.1 u.2.2.2.1 u.2.2.2.2.1 u.2.2.2.2.2.1 u.2.2.2.2.2.2)) := by
  refine vC_v (cc := cX5_begin) (nL := 5) (by decide +kernel) rfl ⟨rfl, rfl⟩ (Nat.le_of_ble_eq_true rfl) rfl ?_
  intro E el eD X r
  unfold w_X5_begin at h
  refine v_aload_n X 0 dX5_begin_0 rfl rfl ?_
  refine v_iconst X dX5_begin_1 (v := (1 : Int32)) (by decide) ?_
  refine v_put X (ws' := (cl_X5_begin T o_p0 a_p0 (1 : Int32) s_p0_kind s_p0_tag s_p0_size s_p0_lineCount s_p0_near s_p0_through)) 0 3 (F := TX5) (N := 8) iX5_begin_X5 rfl tyX5 tyX5_ok nmX5 rfl (by decide) (List.mem_of_getElem? (i := 1) rfl) rfl rfl rfl (by decide) (by decide) (Nat.le_of_ble_eq_true rfl) rfl dX5_begin_2 ?_
  refine v_aload_n X 0 dX5_begin_5 rfl rfl ?_
  refine v_iload_n X 1 dX5_begin_6 rfl rfl ?_
  refine v_put X (ws' := (cl_X5_begin T o_p0 a_p0 (1 : Int32) x_1 s_p0_tag s_p0_size s_p0_lineCount s_p0_near s_p0_through)) 0 4 (F := TX5) (N := 8) iX5_begin_X5 rfl tyX5 tyX5_ok nmX5 rfl (by decide) (List.mem_of_getElem? (i := 2) rfl) rfl rfl rfl rfl rfl (Nat.le_of_ble_eq_true rfl) rfl dX5_begin_7 ?_
  refine v_aload_n X 0 dX5_begin_10 rfl rfl ?_
  refine v_iload_n X 2 dX5_begin_11 rfl rfl ?_
  refine v_put X (ws' := (cl_X5_begin T o_p0 a_p0 (1 : Int32) x_1 s_p0_tag x_2 s_p0_lineCount s_p0_near s_p0_through)) 0 6 (F := TX5) (N := 8) iX5_begin_X5 rfl tyX5 tyX5_ok nmX5 rfl (by decide) (List.mem_of_getElem? (i := 3) rfl) rfl rfl rfl rfl rfl (Nat.le_of_ble_eq_true rfl) rfl dX5_begin_12 ?_
  refine v_aload_n X 0 dX5_begin_15 rfl rfl ?_
  refine v_iload_n X 3 dX5_begin_16 rfl rfl ?_
  refine v_put X (ws' := (cl_X5_begin T o_p0 a_p0 (1 : Int32) x_1 x_3 x_2 s_p0_lineCount s_p0_near s_p0_through)) 0 5 (F := TX5) (N := 8) iX5_begin_X5 rfl tyX5 tyX5_ok nmX5 rfl (by decide) (List.mem_of_getElem? (i := 4) rfl) rfl rfl rfl rfl rfl (Nat.le_of_ble_eq_true rfl) rfl dX5_begin_17 ?_
  refine v_aload_n X 0 dX5_begin_20 rfl rfl ?_
  refine v_iconst X dX5_begin_21 (v := (0 : Int32)) (by decide) ?_
  refine v_put X (ws' := (cl_X5_begin T o_p0 a_p0 (1 : Int32) x_1 x_3 x_2 (0 : Int32) s_p0_near s_p0_through)) 0 7 (F := TX5) (N := 8) iX5_begin_X5 rfl tyX5 tyX5_ok nmX5 rfl (by decide) (List.mem_of_getElem? (i := 5) rfl) rfl rfl rfl rfl rfl (Nat.le_of_ble_eq_true rfl) rfl dX5_begin_22 ?_
  refine v_iconst X dX5_begin_25 (v := (0 : Int32)) (by decide) ?_
  refine v_istore X (lv' := [(4, .int (0 : Int32)), (0, .ref o_p0), (1, .int x_1), (2, .int x_2), (3, .int x_3)]) dX5_begin_26 (by decide) rfl ?_
  refine v_lv (lv' := [(0, .ref o_p0), (4, .int (0 : Int32))]) [1, 0] rfl ?_
  obtain ⟨n_, h⟩ := h
  exact k_X5_begin_28 X r n_ _ _ _ h
-- X5_areNear
abbrev cl_X5_areNear (T : Nat → ClassId) (o_p0 : Nat) (a_p0 : Nat → Nat) (s_p0_there : Int32) (s_p0_kind : Int32) (s_p0_tag : Int32) (s_p0_size : Int32) (s_p0_lineCount : Int32) (s_p0_near : Nat → Int64) : va_W := [vO o_p0 2 [.ref (a_p0 0), .ref (a_p0 1), .ref (a_p0 2), .int s_p0_there, .int s_p0_kind, .int s_p0_tag, .int s_p0_size, .int s_p0_lineCount], vJ T (a_p0 2) 45 s_p0_near]
abbrev r_X5_areNear (E : vE) (T : Nat → ClassId) (o_p0 : Nat) (a_p0 : Nat → Nat) (s_p0_there : Int32) (s_p0_kind : Int32) (s_p0_tag : Int32) (s_p0_size : Int32) (s_p0_lineCount : Int32) (s_p0_near : Nat → Int64) (Q : Int32 → Prop) : Prop := vRz E cX5_areNear (fun v (u : Unit) => Q v) (fun (u : Unit) => (cl_X5_areNear T o_p0 a_p0 s_p0_there s_p0_kind s_p0_tag s_p0_size s_p0_lineCount s_p0_near))
def w_X5_areNear (x_1 : Int32) (x_2 : Int32) (s_p0_near : Nat → Int64) (Q : Int32 → Prop) : Prop := (vp_in x_1 45 ∧ (w_X6_has (s_p0_near (x_1).toNatClampNeg) x_2 (fun (r_7 : Int32) => (vz r_7 ∧ Q r_7))))
-- X5_areNear
theorem iX5_areNear_X5 : ∀ w ∈ wsX50, w ∈ wsX5_areNear := by decide +kernel
set_option maxHeartbeats 4000000 in
set_option maxRecDepth 100000 in
theorem c_X5_areNear {l : Launch} {D : va_G} {T : Nat → ClassId} {o_p0 : Nat} {a_p0 : Nat → Nat} {s_p0_there : Int32} {s_p0_kind : Int32} {s_p0_tag : Int32} {s_p0_size : Int32} {s_p0_lineCount : Int32} {s_p0_near : Nat → Int64} {x_1 : Int32} {x_2 : Int32} {Q : Int32 → Prop} (h : w_X5_areNear x_1 x_2 s_p0_near Q) : vCi l D (vT T) yX5_areNear wsX5_areNear (vr 1 22) [.ref o_p0, .int x_1, .int x_2] (cl_X5_areNear T o_p0 a_p0 s_p0_there s_p0_kind s_p0_tag s_p0_size s_p0_lineCount s_p0_near) (fun v (u : Unit) => Q v) (fun (u : Unit) => (cl_X5_areNear T o_p0 a_p0 s_p0_there s_p0_kind s_p0_tag s_p0_size s_p0_lineCount s_p0_near)) := by
  refine vC_z (cc := cX5_areNear) (nL := 3) (by decide +kernel) rfl ⟨rfl, rfl⟩ (Nat.le_of_ble_eq_true rfl) rfl ?_
  intro E el eD X r
  unfold w_X5_areNear at h
  refine v_aload_n X 0 dX5_areNear_0 rfl rfl ?_
  refine v_get X 0 2 (F := TX5) (N := 8) iX5_areNear_X5 rfl rfl (by decide) (List.mem_of_getElem? (i := 1) rfl) rfl rfl dX5_areNear_1 ?_
  refine v_iload_n X 1 dX5_areNear_4 rfl rfl ?_
  refine v_lald X 1 1 rfl rfl h.1 dX5_areNear_5 ?_
  replace h := h.2
  refine v_iload_n X 2 dX5_areNear_6 rfl rfl ?_
  refine v_callNi0 X (As := [.long (s_p0_near (x_1).toNatClampNeg), .int x_2]) (rest := []) 2 (c_X6_has (l := vl E) (D := vD E) (T := T) (x_0 := (s_p0_near (x_1).toNatClampNeg)) (x_2 := x_2) h) gX5_areNear_X6_has_n38 (List.mem_of_getElem? (i := 36) rfl) (List.mem_of_getElem? (i := 3) rfl) (List.mem_of_getElem? (i := 2) rfl) rfl rfl (by decide +kernel) ⟨Nat.zero_le _, Nat.zero_le _⟩ ⟨rfl, rfl, by decide, by decide⟩ (Nat.le_of_ble_eq_true rfl) rfl dX5_areNear_7 (fun r_7 h => ?_)
  exact r _ _ _ () _ dX5_areNear_10 h.1 h.2 rfl
-- X5_nearToAll
abbrev cl_X5_nearToAll (T : Nat → ClassId) (o_p0 : Nat) (a_p0 : Nat → Nat) (s_p0_there : Int32) (s_p0_kind : Int32) (s_p0_tag : Int32) (s_p0_size : Int32) (s_p0_lineCount : Int32) (s_p0_near : Nat → Int64) : va_W := [vO o_p0 2 [.ref (a_p0 0), .ref (a_p0 1), .ref (a_p0 2), .int s_p0_there, .int s_p0_kind, .int s_p0_tag, .int s_p0_size, .int s_p0_lineCount], vJ T (a_p0 2) 45 s_p0_near]
abbrev r_X5_nearToAll (E : vE) (T : Nat → ClassId) (o_p0 : Nat) (a_p0 : Nat → Nat) (s_p0_there : Int32) (s_p0_kind : Int32) (s_p0_tag : Int32) (s_p0_size : Int32) (s_p0_lineCount : Int32) (s_p0_near : Nat → Int64) (Q : Int64 → Prop) : Prop := vRl E cX5_nearToAll (fun v (u : Unit) => Q v) (fun (u : Unit) => (cl_X5_nearToAll T o_p0 a_p0 s_p0_there s_p0_kind s_p0_tag s_p0_size s_p0_lineCount s_p0_near))
def w_X5_nearToAll_39 (x_1 : Int64) (x_3 : Int64) (x_5 : Int32) (s_p0_size : Int32) (s_p0_near : Nat → Int64) (K_11 : (Int64) → (Int32) → Prop) (Q : Int64 → Prop) : Prop := (K_11 x_3 (x_5 + (1 : Int32)))
def w_X5_nearToAll_11s (x_1 : Int64) (s_p0_size : Int32) (s_p0_near : Nat → Int64) (Q : Int64 → Prop) (K_11 : (Int64) → (Int32) → Prop) (x_3 : Int64) (x_5 : Int32) : Prop := ((s_p0_size ≤ x_5 → (Q x_3)) ∧ (¬ s_p0_size ≤ x_5 → (w_X6_has x_1 x_5 (fun (r_23 : Int32) => ((r_23 = 0 → (w_X5_nearToAll_39 x_1 x_3 x_5 s_p0_size s_p0_near K_11 Q)) ∧ (¬ r_23 = 0 → (vp_in x_5 45 ∧ (w_X5_nearToAll_39 x_1 (x_3 &&& (s_p0_near (x_5).toNatClampNeg)) x_5 s_p0_size s_p0_near K_11 Q))))))))
def w_X5_nearToAll_11 (x_1 : Int64) (s_p0_size : Int32) (s_p0_near : Nat → Int64) (Q : Int64 → Prop) : Nat → (Int64) → (Int32) → Prop
  | 0 => fun _ _ => False
  | n_ + 1 => w_X5_nearToAll_11s x_1 s_p0_size s_p0_near Q (w_X5_nearToAll_11 x_1 s_p0_size s_p0_near Q n_)
def w_X5_nearToAll (x_1 : Int64) (s_p0_size : Int32) (s_p0_near : Nat → Int64) (Q : Int64 → Prop) : Prop := (w_X6_below s_p0_size (fun (r_4 : Int64) => (∃ n_, w_X5_nearToAll_11 x_1 s_p0_size s_p0_near Q n_ r_4 (0 : Int32))))
-- X5_nearToAll
theorem iX5_nearToAll_X5 : ∀ w ∈ wsX50, w ∈ wsX5_nearToAll := by decide +kernel
set_option maxHeartbeats 4000000 in
set_option maxRecDepth 100000 in
theorem k_X5_nearToAll_39 {E : vE} {T : Nat → ClassId} {o_p0 : Nat} {a_p0 : Nat → Nat} {s_p0_there : Int32} {s_p0_kind : Int32} {s_p0_tag : Int32} {s_p0_size : Int32} {s_p0_lineCount : Int32} {s_p0_near : Nat → Int64} {x_1 : Int64} {x_3 : Int64} {x_5 : Int32} {K_11 : (Int64) → (Int32) → Prop} {Q : Int64 → Prop} (X : vX E cX5_nearToAll 6 RX5 wsX5_nearToAll (vT T) (vr 1 22)) (r : r_X5_nearToAll E T o_p0 a_p0 s_p0_there s_p0_kind s_p0_tag s_p0_size s_p0_lineCount s_p0_near Q) (hK_11 : ∀ (x_3' : Int64) (x_5' : Int32), K_11 x_3' x_5' → V E 0 0 11 [(0, .ref o_p0), (1, .long x_1), (3, .long x_3'), (5, .int x_5')] [] (cl_X5_nearToAll T o_p0 a_p0 s_p0_there s_p0_kind s_p0_tag s_p0_size s_p0_lineCount s_p0_near)) (h : w_X5_nearToAll_39 x_1 x_3 x_5 s_p0_size s_p0_near K_11 Q) : V E 0 0 39 [(0, .ref o_p0), (1, .long x_1), (3, .long x_3), (5, .int x_5)] [] (cl_X5_nearToAll T o_p0 a_p0 s_p0_there s_p0_kind s_p0_tag s_p0_size s_p0_lineCount s_p0_near) := by
  unfold w_X5_nearToAll_39 at h
  refine v_iinc X (v := (x_5 + (1 : Int32))) (lv' := [(5, .int (x_5 + (1 : Int32))), (0, .ref o_p0), (1, .long x_1), (3, .long x_3)]) 3 dX5_nearToAll_39 rfl rfl (by decide) rfl ?_
  refine v_goto X (tgt := 11) dX5_nearToAll_42 (by decide) ?_
  refine v_lv (lv' := [(0, .ref o_p0), (1, .long x_1), (3, .long x_3), (5, .int (x_5 + (1 : Int32)))]) [1, 2, 3, 0] rfl ?_
  exact hK_11 _ _ h
set_option maxHeartbeats 4000000 in
set_option maxRecDepth 100000 in
theorem k_X5_nearToAll_11 {E : vE} {T : Nat → ClassId} {o_p0 : Nat} {a_p0 : Nat → Nat} {s_p0_there : Int32} {s_p0_kind : Int32} {s_p0_tag : Int32} {s_p0_size : Int32} {s_p0_lineCount : Int32} {s_p0_near : Nat → Int64} {x_1 : Int64} {Q : Int64 → Prop} (X : vX E cX5_nearToAll 6 RX5 wsX5_nearToAll (vT T) (vr 1 22)) (r : r_X5_nearToAll E T o_p0 a_p0 s_p0_there s_p0_kind s_p0_tag s_p0_size s_p0_lineCount s_p0_near Q) : ∀ (n_ : Nat) (x_3 : Int64) (x_5 : Int32), w_X5_nearToAll_11 x_1 s_p0_size s_p0_near Q n_ x_3 x_5 → V E 0 0 11 [(0, .ref o_p0), (1, .long x_1), (3, .long x_3), (5, .int x_5)] [] (cl_X5_nearToAll T o_p0 a_p0 s_p0_there s_p0_kind s_p0_tag s_p0_size s_p0_lineCount s_p0_near) := by
  intro n_
  induction n_ with
  | zero => intro x_3 x_5 h; exact h.elim
  | succ n_ hK_11 =>
    intro x_3 x_5 h
    replace h : w_X5_nearToAll_11s x_1 s_p0_size s_p0_near Q (w_X5_nearToAll_11 x_1 s_p0_size s_p0_near Q n_) x_3 x_5 := h
    unfold w_X5_nearToAll_11s at h
    refine v_iload X 3 dX5_nearToAll_11 rfl ?_
    refine v_aload_n X 0 dX5_nearToAll_13 rfl rfl ?_
    refine v_get X 0 6 (F := TX5) (N := 8) iX5_nearToAll_X5 rfl rfl (by decide) (List.mem_of_getElem? (i := 1) rfl) rfl rfl dX5_nearToAll_14 ?_
    refine v_icmp_ge X (tgt := 45) dX5_nearToAll_17 (by decide) (fun c_17 => ?_) (fun c_17 => ?_)
    · replace h := h.1 c_17
      refine v_lload_n X 2 dX5_nearToAll_45 rfl rfl ?_
      exact r _ _ _ () _ dX5_nearToAll_46 h rfl
    · replace h := h.2 c_17
      refine v_lload_n X 1 dX5_nearToAll_20 rfl rfl ?_
      refine v_iload X 3 dX5_nearToAll_21 rfl ?_
      refine v_callNi0 X (As := [.long x_1, .int x_5]) (rest := []) 2 (c_X6_has (l := vl E) (D := vD E) (T := T) (x_0 := x_1) (x_2 := x_5) h) gX5_nearToAll_X6_has_n38 (List.mem_of_getElem? (i := 36) rfl) (List.mem_of_getElem? (i := 4) rfl) (List.mem_of_getElem? (i := 6) rfl) rfl rfl (by decide +kernel) ⟨Nat.zero_le _, Nat.zero_le _⟩ ⟨rfl, rfl, by decide, by decide⟩ (Nat.le_of_ble_eq_true rfl) rfl dX5_nearToAll_23 (fun r_23 h => ?_)
      refine v_if_eq X (tgt := 39) dX5_nearToAll_26 (by decide) (fun c_26 => ?_) (fun c_26 => ?_)
      · replace h := h.1 c_26
        exact k_X5_nearToAll_39 X r hK_11 h
      · replace h := h.2 c_26
        refine v_lload_n X 2 dX5_nearToAll_29 rfl rfl ?_
        refine v_aload_n X 0 dX5_nearToAll_30 rfl rfl ?_
        refine v_get X 0 2 (F := TX5) (N := 8) iX5_nearToAll_X5 rfl rfl (by decide) (List.mem_of_getElem? (i := 2) rfl) rfl rfl dX5_nearToAll_31 ?_
        refine v_iload X 3 dX5_nearToAll_34 rfl ?_
        refine v_lald X 1 1 rfl rfl h.1 dX5_nearToAll_36 ?_
        replace h := h.2
        refine v_land X dX5_nearToAll_37 ?_
        refine v_lstore_n X (lv' := [(3, .long (x_3 &&& (s_p0_near (x_5).toNatClampNeg))), (0, .ref o_p0), (1, .long x_1), (5, .int x_5)]) dX5_nearToAll_38 rfl (by decide) rfl ?_
        refine v_lv (lv' := [(0, .ref o_p0), (1, .long x_1), (3, .long (x_3 &&& (s_p0_near (x_5).toNatClampNeg))), (5, .int x_5)]) [1, 2, 0, 3] rfl ?_
        exact k_X5_nearToAll_39 X r hK_11 h
set_option maxHeartbeats 4000000 in
set_option maxRecDepth 100000 in
theorem c_X5_nearToAll {l : Launch} {D : va_G} {T : Nat → ClassId} {o_p0 : Nat} {a_p0 : Nat → Nat} {s_p0_there : Int32} {s_p0_kind : Int32} {s_p0_tag : Int32} {s_p0_size : Int32} {s_p0_lineCount : Int32} {s_p0_near : Nat → Int64} {x_1 : Int64} {Q : Int64 → Prop} (h : w_X5_nearToAll x_1 s_p0_size s_p0_near Q) : vCl l D (vT T) yX5_nearToAll wsX5_nearToAll (vr 1 22) [.ref o_p0, .long x_1] (cl_X5_nearToAll T o_p0 a_p0 s_p0_there s_p0_kind s_p0_tag s_p0_size s_p0_lineCount s_p0_near) (fun v (u : Unit) => Q v) (fun (u : Unit) => (cl_X5_nearToAll T o_p0 a_p0 s_p0_there s_p0_kind s_p0_tag s_p0_size s_p0_lineCount s_p0_near)) := by
  refine vC_l (cc := cX5_nearToAll) (nL := 6) (by decide +kernel) rfl ⟨rfl, rfl⟩ (Nat.le_of_ble_eq_true rfl) rfl ?_
  intro E el eD X r
  unfold w_X5_nearToAll at h
  refine v_aload_n X 0 dX5_nearToAll_0 rfl rfl ?_
  refine v_get X 0 6 (F := TX5) (N := 8) iX5_nearToAll_X5 rfl rfl (by decide) (List.mem_of_getElem? (i := 1) rfl) rfl rfl dX5_nearToAll_1 ?_
  refine v_callNl0 X (As := [.int s_p0_size]) (rest := []) 1 (c_X6_below (l := vl E) (D := vD E) (T := T) (x_0 := s_p0_size) h) gX5_nearToAll_X6_below_n42 (List.mem_of_getElem? (i := 39) rfl) (List.mem_of_getElem? (i := 4) rfl) (List.mem_of_getElem? (i := 3) rfl) rfl rfl (by decide +kernel) ⟨Nat.zero_le _, Nat.zero_le _⟩ ⟨rfl, rfl, by decide, by decide⟩ (Nat.le_of_ble_eq_true rfl) rfl dX5_nearToAll_4 (fun r_4 h => ?_)
  refine v_lstore_n X (lv' := [(3, .long r_4), (0, .ref o_p0), (1, .long x_1)]) dX5_nearToAll_7 rfl (by decide) rfl ?_
  refine v_iconst X dX5_nearToAll_8 (v := (0 : Int32)) (by decide) ?_
  refine v_istore X (lv' := [(5, .int (0 : Int32)), (3, .long r_4), (0, .ref o_p0), (1, .long x_1)]) dX5_nearToAll_9 (by decide) rfl ?_
  refine v_lv (lv' := [(0, .ref o_p0), (1, .long x_1), (3, .long r_4), (5, .int (0 : Int32))]) [2, 3, 1, 0] rfl ?_
  obtain ⟨n_, h⟩ := h
  exact k_X5_nearToAll_11 X r n_ _ _ h
-- X5_spanSet
abbrev cl_X5_spanSet (T : Nat → ClassId) (o_p0 : Nat) (a_p0 : Nat → Nat) (s_p0_there : Int32) (s_p0_kind : Int32) (s_p0_tag : Int32) (s_p0_size : Int32) (s_p0_lineCount : Int32) (s_p0_near : Nat → Int64) : va_W := [vO o_p0 2 [.ref (a_p0 0), .ref (a_p0 1), .ref (a_p0 2), .int s_p0_there, .int s_p0_kind, .int s_p0_tag, .int s_p0_size, .int s_p0_lineCount], vJ T (a_p0 2) 45 s_p0_near]
abbrev r_X5_spanSet (E : vE) (T : Nat → ClassId) (o_p0 : Nat) (a_p0 : Nat → Nat) (s_p0_there : Int32) (s_p0_kind : Int32) (s_p0_tag : Int32) (s_p0_size : Int32) (s_p0_lineCount : Int32) (s_p0_near : Nat → Int64) (Q : Int64 → Prop) : Prop := vRl E cX5_spanSet (fun v (u : Unit) => Q v) (fun (u : Unit) => (cl_X5_spanSet T o_p0 a_p0 s_p0_there s_p0_kind s_p0_tag s_p0_size s_p0_lineCount s_p0_near))
def w_X5_spanSet (x_1 : Int32) (x_2 : Int32) (s_p0_size : Int32) (s_p0_near : Nat → Int64) (Q : Int64 → Prop) : Prop := (vp_in x_1 45 ∧ (vp_in x_2 45 ∧ (w_X5_nearToAll ((s_p0_near (x_1).toNatClampNeg) &&& (s_p0_near (x_2).toNatClampNeg)) s_p0_size s_p0_near (fun (r_14 : Int64) => (Q r_14)))))
-- X5_spanSet
theorem iX5_spanSet_X5 : ∀ w ∈ wsX50, w ∈ wsX5_spanSet := by decide +kernel
set_option maxHeartbeats 4000000 in
set_option maxRecDepth 100000 in
theorem c_X5_spanSet {l : Launch} {D : va_G} {T : Nat → ClassId} {o_p0 : Nat} {a_p0 : Nat → Nat} {s_p0_there : Int32} {s_p0_kind : Int32} {s_p0_tag : Int32} {s_p0_size : Int32} {s_p0_lineCount : Int32} {s_p0_near : Nat → Int64} {x_1 : Int32} {x_2 : Int32} {Q : Int64 → Prop} (h : w_X5_spanSet x_1 x_2 s_p0_size s_p0_near Q) : vCl l D (vT T) yX5_spanSet wsX5_spanSet (vr 2 47) [.ref o_p0, .int x_1, .int x_2] (cl_X5_spanSet T o_p0 a_p0 s_p0_there s_p0_kind s_p0_tag s_p0_size s_p0_lineCount s_p0_near) (fun v (u : Unit) => Q v) (fun (u : Unit) => (cl_X5_spanSet T o_p0 a_p0 s_p0_there s_p0_kind s_p0_tag s_p0_size s_p0_lineCount s_p0_near)) := by
  refine vC_l (cc := cX5_spanSet) (nL := 3) (by decide +kernel) rfl ⟨rfl, rfl⟩ (Nat.le_of_ble_eq_true rfl) rfl ?_
  intro E el eD X r
  unfold w_X5_spanSet at h
  refine v_aload_n X 0 dX5_spanSet_0 rfl rfl ?_
  refine v_aload_n X 0 dX5_spanSet_1 rfl rfl ?_
  refine v_get X 0 2 (F := TX5) (N := 8) iX5_spanSet_X5 rfl rfl (by decide) (List.mem_of_getElem? (i := 1) rfl) rfl rfl dX5_spanSet_2 ?_
  refine v_iload_n X 1 dX5_spanSet_5 rfl rfl ?_
  refine v_lald X 1 1 rfl rfl h.1 dX5_spanSet_6 ?_
  replace h := h.2
  refine v_aload_n X 0 dX5_spanSet_7 rfl rfl ?_
  refine v_get X 0 2 (F := TX5) (N := 8) iX5_spanSet_X5 rfl rfl (by decide) (List.mem_of_getElem? (i := 1) rfl) rfl rfl dX5_spanSet_8 ?_
  refine v_iload_n X 2 dX5_spanSet_11 rfl rfl ?_
  refine v_lald X 1 1 rfl rfl h.1 dX5_spanSet_12 ?_
  replace h := h.2
  refine v_land X dX5_spanSet_13 ?_
  refine v_callVl X (As := [.long ((s_p0_near (x_1).toNatClampNeg) &&& (s_p0_near (x_2).toNatClampNeg))]) (rest := []) 1 0 (c_X5_nearToAll (l := vl E) (D := vD E) (T := T) (o_p0 := o_p0) (a_p0 := a_p0) (s_p0_there := s_p0_there) (s_p0_kind := s_p0_kind) (s_p0_tag := s_p0_tag) (s_p0_size := s_p0_size) (s_p0_lineCount := s_p0_lineCount) (s_p0_near := s_p0_near) (x_1 := ((s_p0_near (x_1).toNatClampNeg) &&& (s_p0_near (x_2).toNatClampNeg))) h) gX5_spanSet_X5_nearToAll rfl rfl (by decide +kernel) ⟨Nat.zero_le _, Nat.zero_le _⟩ ⟨rfl, rfl, by decide, by decide⟩ (Nat.le_of_ble_eq_true rfl) rfl rfl (wr := []) [0, 1] [] rfl rfl rfl rfl (by decide) rfl dX5_spanSet_14 (fun r_14 u h => ?_)
  refine v_ws (ws' := (cl_X5_spanSet T o_p0 a_p0 s_p0_there s_p0_kind s_p0_tag s_p0_size s_p0_lineCount s_p0_near)) [0, 1] rfl rfl ?_
  exact r _ _ _ () _ dX5_spanSet_17 h rfl
-- X5_hasPoint
abbrev cl_X5_hasPoint (T : Nat → ClassId) (o_p0 : Nat) (a_p0 : Nat → Nat) (s_p0_there : Int32) (s_p0_kind : Int32) (s_p0_tag : Int32) (s_p0_size : Int32) (s_p0_lineCount : Int32) : va_W := [vO o_p0 2 [.ref (a_p0 0), .ref (a_p0 1), .ref (a_p0 2), .int s_p0_there, .int s_p0_kind, .int s_p0_tag, .int s_p0_size, .int s_p0_lineCount]]
abbrev r_X5_hasPoint (E : vE) (T : Nat → ClassId) (o_p0 : Nat) (a_p0 : Nat → Nat) (s_p0_there : Int32) (s_p0_kind : Int32) (s_p0_tag : Int32) (s_p0_size : Int32) (s_p0_lineCount : Int32) (Q : Int32 → Prop) : Prop := vRz E cX5_hasPoint (fun v (u : Unit) => Q v) (fun (u : Unit) => (cl_X5_hasPoint T o_p0 a_p0 s_p0_there s_p0_kind s_p0_tag s_p0_size s_p0_lineCount))
def w_X5_hasPoint_17 (t_0 : Int32) (s_p0_size : Int32) (Q : Int32 → Prop) : Prop := (vz t_0 ∧ Q t_0)
def w_X5_hasPoint_16 (s_p0_size : Int32) (Q : Int32 → Prop) : Prop := (w_X5_hasPoint_17 (0 : Int32) s_p0_size Q)
def w_X5_hasPoint (x_1 : Int32) (s_p0_size : Int32) (Q : Int32 → Prop) : Prop := ((x_1 < 0 → (w_X5_hasPoint_16 s_p0_size Q)) ∧ (¬ x_1 < 0 → ((s_p0_size ≤ x_1 → (w_X5_hasPoint_16 s_p0_size Q)) ∧ (¬ s_p0_size ≤ x_1 → (w_X5_hasPoint_17 (1 : Int32) s_p0_size Q)))))
-- X5_hasPoint
theorem iX5_hasPoint_X5 : ∀ w ∈ wsX50, w ∈ wsX5_hasPoint := by decide +kernel
set_option maxHeartbeats 4000000 in
set_option maxRecDepth 100000 in
theorem k_X5_hasPoint_17 {E : vE} {T : Nat → ClassId} {o_p0 : Nat} {a_p0 : Nat → Nat} {s_p0_there : Int32} {s_p0_kind : Int32} {s_p0_tag : Int32} {s_p0_size : Int32} {s_p0_lineCount : Int32} {t_0 : Int32} {Q : Int32 → Prop} (X : vX E cX5_hasPoint 2 RX5 wsX5_hasPoint (vT T) (vr 0 0)) (r : r_X5_hasPoint E T o_p0 a_p0 s_p0_there s_p0_kind s_p0_tag s_p0_size s_p0_lineCount Q) (h : w_X5_hasPoint_17 t_0 s_p0_size Q) : V E 0 0 17 [] [.int t_0] (cl_X5_hasPoint T o_p0 a_p0 s_p0_there s_p0_kind s_p0_tag s_p0_size s_p0_lineCount) := by
  unfold w_X5_hasPoint_17 at h
  exact r _ _ _ () _ dX5_hasPoint_17 h.1 h.2 rfl
set_option maxHeartbeats 4000000 in
set_option maxRecDepth 100000 in
theorem k_X5_hasPoint_16 {E : vE} {T : Nat → ClassId} {o_p0 : Nat} {a_p0 : Nat → Nat} {s_p0_there : Int32} {s_p0_kind : Int32} {s_p0_tag : Int32} {s_p0_size : Int32} {s_p0_lineCount : Int32} {Q : Int32 → Prop} (X : vX E cX5_hasPoint 2 RX5 wsX5_hasPoint (vT T) (vr 0 0)) (r : r_X5_hasPoint E T o_p0 a_p0 s_p0_there s_p0_kind s_p0_tag s_p0_size s_p0_lineCount Q) (h : w_X5_hasPoint_16 s_p0_size Q) : V E 0 0 16 [] [] (cl_X5_hasPoint T o_p0 a_p0 s_p0_there s_p0_kind s_p0_tag s_p0_size s_p0_lineCount) := by
  unfold w_X5_hasPoint_16 at h
  refine v_iconst X dX5_hasPoint_16 (v := (0 : Int32)) (by decide) ?_
  exact k_X5_hasPoint_17 X r h
set_option maxHeartbeats 4000000 in
set_option maxRecDepth 100000 in
theorem c_X5_hasPoint {l : Launch} {D : va_G} {T : Nat → ClassId} {o_p0 : Nat} {a_p0 : Nat → Nat} {s_p0_there : Int32} {s_p0_kind : Int32} {s_p0_tag : Int32} {s_p0_size : Int32} {s_p0_lineCount : Int32} {x_1 : Int32} {Q : Int32 → Prop} (h : w_X5_hasPoint x_1 s_p0_size Q) : vCi l D (vT T) yX5_hasPoint wsX5_hasPoint (vr 0 0) [.ref o_p0, .int x_1] (cl_X5_hasPoint T o_p0 a_p0 s_p0_there s_p0_kind s_p0_tag s_p0_size s_p0_lineCount) (fun v (u : Unit) => Q v) (fun (u : Unit) => (cl_X5_hasPoint T o_p0 a_p0 s_p0_there s_p0_kind s_p0_tag s_p0_size s_p0_lineCount)) := by
  refine vC_z (cc := cX5_hasPoint) (nL := 2) (by decide +kernel) rfl ⟨rfl, rfl⟩ (Nat.le_of_ble_eq_true rfl) rfl ?_
  intro E el eD X r
  unfold w_X5_hasPoint at h
  refine v_iload_n X 1 dX5_hasPoint_0 rfl rfl ?_
  refine v_if_lt X (tgt := 16) dX5_hasPoint_1 (by decide) (fun c_1 => ?_) (fun c_1 => ?_)
  · replace h := h.1 c_1
    refine v_lv (lv' := []) [] rfl ?_
    exact k_X5_hasPoint_16 X r h
  · replace h := h.2 c_1
    refine v_iload_n X 1 dX5_hasPoint_4 rfl rfl ?_
    refine v_aload_n X 0 dX5_hasPoint_5 rfl rfl ?_
    refine v_get X 0 6 (F := TX5) (N := 8) iX5_hasPoint_X5 rfl rfl (by decide) (List.mem_of_getElem? (i := 1) rfl) rfl rfl dX5_hasPoint_6 ?_
    refine v_icmp_ge X (tgt := 16) dX5_hasPoint_9 (by decide) (fun c_9 => ?_) (fun c_9 => ?_)
    · replace h := h.1 c_9
      refine v_lv (lv' := []) [] rfl ?_
      exact k_X5_hasPoint_16 X r h
    · replace h := h.2 c_9
      refine v_iconst X dX5_hasPoint_12 (v := (1 : Int32)) (by decide) ?_
      refine v_goto X (tgt := 17) dX5_hasPoint_13 (by decide) ?_
      refine v_lv (lv' := []) [] rfl ?_
      exact k_X5_hasPoint_17 X r h
-- X5_hasAll
abbrev cl_X5_hasAll (T : Nat → ClassId) (o_p0 : Nat) (a_p0 : Nat → Nat) (s_p0_there : Int32) (s_p0_kind : Int32) (s_p0_tag : Int32) (s_p0_size : Int32) (s_p0_lineCount : Int32) : va_W := [vO o_p0 2 [.ref (a_p0 0), .ref (a_p0 1), .ref (a_p0 2), .int s_p0_there, .int s_p0_kind, .int s_p0_tag, .int s_p0_size, .int s_p0_lineCount]]
abbrev r_X5_hasAll (E : vE) (T : Nat → ClassId) (o_p0 : Nat) (a_p0 : Nat → Nat) (s_p0_there : Int32) (s_p0_kind : Int32) (s_p0_tag : Int32) (s_p0_size : Int32) (s_p0_lineCount : Int32) (Q : Int32 → Prop) : Prop := vRz E cX5_hasAll (fun v (u : Unit) => Q v) (fun (u : Unit) => (cl_X5_hasAll T o_p0 a_p0 s_p0_there s_p0_kind s_p0_tag s_p0_size s_p0_lineCount))
def w_X5_hasAll_23 (t_0 : Int32) (s_p0_size : Int32) (Q : Int32 → Prop) : Prop := (vz t_0 ∧ Q t_0)
def w_X5_hasAll (x_1 : Int64) (s_p0_size : Int32) (Q : Int32 → Prop) : Prop := (w_X6_below s_p0_size (fun (r_5 : Int64) => ((¬ (lg_cmp (x_1 &&& (r_5 ^^^ (-1 : Int64))) (0 : Int64)) = 0 → (w_X5_hasAll_23 (0 : Int32) s_p0_size Q)) ∧ ((lg_cmp (x_1 &&& (r_5 ^^^ (-1 : Int64))) (0 : Int64)) = 0 → (w_X5_hasAll_23 (1 : Int32) s_p0_size Q)))))
-- X5_hasAll
theorem iX5_hasAll_X5 : ∀ w ∈ wsX50, w ∈ wsX5_hasAll := by decide +kernel
set_option maxHeartbeats 4000000 in
set_option maxRecDepth 100000 in
theorem k_X5_hasAll_23 {E : vE} {T : Nat → ClassId} {o_p0 : Nat} {a_p0 : Nat → Nat} {s_p0_there : Int32} {s_p0_kind : Int32} {s_p0_tag : Int32} {s_p0_size : Int32} {s_p0_lineCount : Int32} {t_0 : Int32} {Q : Int32 → Prop} (X : vX E cX5_hasAll 3 RX5 wsX5_hasAll (vT T) (vr 1 20)) (r : r_X5_hasAll E T o_p0 a_p0 s_p0_there s_p0_kind s_p0_tag s_p0_size s_p0_lineCount Q) (h : w_X5_hasAll_23 t_0 s_p0_size Q) : V E 0 0 23 [] [.int t_0] (cl_X5_hasAll T o_p0 a_p0 s_p0_there s_p0_kind s_p0_tag s_p0_size s_p0_lineCount) := by
  unfold w_X5_hasAll_23 at h
  exact r _ _ _ () _ dX5_hasAll_23 h.1 h.2 rfl
set_option maxHeartbeats 4000000 in
set_option maxRecDepth 100000 in
theorem c_X5_hasAll {l : Launch} {D : va_G} {T : Nat → ClassId} {o_p0 : Nat} {a_p0 : Nat → Nat} {s_p0_there : Int32} {s_p0_kind : Int32} {s_p0_tag : Int32} {s_p0_size : Int32} {s_p0_lineCount : Int32} {x_1 : Int64} {Q : Int32 → Prop} (h : w_X5_hasAll x_1 s_p0_size Q) : vCi l D (vT T) yX5_hasAll wsX5_hasAll (vr 1 20) [.ref o_p0, .long x_1] (cl_X5_hasAll T o_p0 a_p0 s_p0_there s_p0_kind s_p0_tag s_p0_size s_p0_lineCount) (fun v (u : Unit) => Q v) (fun (u : Unit) => (cl_X5_hasAll T o_p0 a_p0 s_p0_there s_p0_kind s_p0_tag s_p0_size s_p0_lineCount)) := by
  refine vC_z (cc := cX5_hasAll) (nL := 3) (by decide +kernel) rfl ⟨rfl, rfl⟩ (Nat.le_of_ble_eq_true rfl) rfl ?_
  intro E el eD X r
  unfold w_X5_hasAll at h
  refine v_lload_n X 1 dX5_hasAll_0 rfl rfl ?_
  refine v_aload_n X 0 dX5_hasAll_1 rfl rfl ?_
  refine v_get X 0 6 (F := TX5) (N := 8) iX5_hasAll_X5 rfl rfl (by decide) (List.mem_of_getElem? (i := 1) rfl) rfl rfl dX5_hasAll_2 ?_
  refine v_callNl0 X (As := [.int s_p0_size]) (rest := [.long x_1]) 1 (c_X6_below (l := vl E) (D := vD E) (T := T) (x_0 := s_p0_size) h) gX5_hasAll_X6_below_n42 (List.mem_of_getElem? (i := 39) rfl) (List.mem_of_getElem? (i := 4) rfl) (List.mem_of_getElem? (i := 3) rfl) rfl rfl (by decide +kernel) ⟨Nat.zero_le _, Nat.zero_le _⟩ ⟨rfl, rfl, by decide, by decide⟩ (Nat.le_of_ble_eq_true rfl) rfl dX5_hasAll_5 (fun r_5 h => ?_)
  refine v_ldc2 X (v := (-1 : Int64)) (List.mem_of_getElem? (i := 2) rfl) dX5_hasAll_8 ?_
  refine v_lxor X dX5_hasAll_11 ?_
  refine v_land X dX5_hasAll_12 ?_
  refine v_lconst X dX5_hasAll_13 (v := (0 : Int64)) (by decide) ?_
  refine v_lcmp X dX5_hasAll_14 ?_
  refine v_if_ne X (tgt := 22) dX5_hasAll_15 (by decide) (fun c_15 => ?_) (fun c_15 => ?_)
  · replace h := h.1 c_15
    refine v_iconst X dX5_hasAll_22 (v := (0 : Int32)) (by decide) ?_
    refine v_lv (lv' := []) [] rfl ?_
    exact k_X5_hasAll_23 X r h
  · replace h := h.2 c_15
    refine v_iconst X dX5_hasAll_18 (v := (1 : Int32)) (by decide) ?_
    refine v_goto X (tgt := 23) dX5_hasAll_19 (by decide) ?_
    refine v_lv (lv' := []) [] rfl ?_
    exact k_X5_hasAll_23 X r h
-- X5_orderOfPoints
abbrev cl_X5_orderOfPoints (T : Nat → ClassId) (o_p0 : Nat) (a_p0 : Nat → Nat) (s_p0_there : Int32) (s_p0_kind : Int32) (s_p0_tag : Int32) (s_p0_size : Int32) (s_p0_lineCount : Int32) (s_p0_through : Nat → Int64) : va_W := [vO o_p0 2 [.ref (a_p0 0), .ref (a_p0 1), .ref (a_p0 2), .int s_p0_there, .int s_p0_kind, .int s_p0_tag, .int s_p0_size, .int s_p0_lineCount], vJ T (a_p0 1) 45 s_p0_through]
abbrev r_X5_orderOfPoints (E : vE) (T : Nat → ClassId) (o_p0 : Nat) (a_p0 : Nat → Nat) (s_p0_there : Int32) (s_p0_kind : Int32) (s_p0_tag : Int32) (s_p0_size : Int32) (s_p0_lineCount : Int32) (s_p0_through : Nat → Int64) (Q : Int32 → Prop) : Prop := vRi E cX5_orderOfPoints (fun v (u : Unit) => Q v) (fun (u : Unit) => (cl_X5_orderOfPoints T o_p0 a_p0 s_p0_there s_p0_kind s_p0_tag s_p0_size s_p0_lineCount s_p0_through))
def w_X5_orderOfPoints_22s (x_1 : Int32) (s_p0_size : Int32) (s_p0_lineCount : Int32) (s_p0_through : Nat → Int64) (Q : Int32 → Prop) (K_22 : (Int32) → Prop) (x_2 : Int32) : Prop := ((s_p0_size ≤ x_2 → (Q (x_1 - (1 : Int32)))) ∧ (¬ s_p0_size ≤ x_2 → (vp_in x_2 45 ∧ (w_J13_bitCount_95d88 (s_p0_through (x_2).toNatClampNeg) (fun (r_36 : Int32) => ((r_36 = x_1 → (K_22 (x_2 + (1 : Int32)))) ∧ (¬ r_36 = x_1 → (Q (-9 : Int32)))))))))
def w_X5_orderOfPoints_22 (x_1 : Int32) (s_p0_size : Int32) (s_p0_lineCount : Int32) (s_p0_through : Nat → Int64) (Q : Int32 → Prop) : Nat → (Int32) → Prop
  | 0 => fun _ => False
  | n_ + 1 => w_X5_orderOfPoints_22s x_1 s_p0_size s_p0_lineCount s_p0_through Q (w_X5_orderOfPoints_22 x_1 s_p0_size s_p0_lineCount s_p0_through Q n_)
def w_X5_orderOfPoints (s_p0_size : Int32) (s_p0_lineCount : Int32) (s_p0_through : Nat → Int64) (Q : Int32 → Prop) : Prop := ((¬ s_p0_lineCount = 0 → (vp_in (0 : Int32) 45 ∧ (w_J13_bitCount_95d88 (s_p0_through ((0 : Int32)).toNatClampNeg) (fun (r_16 : Int32) => (∃ n_, w_X5_orderOfPoints_22 r_16 s_p0_size s_p0_lineCount s_p0_through Q n_ (1 : Int32)))))) ∧ (s_p0_lineCount = 0 → (Q (-9 : Int32))))
-- X5_orderOfPoints
theorem iX5_orderOfPoints_X5 : ∀ w ∈ wsX50, w ∈ wsX5_orderOfPoints := by decide +kernel
set_option maxHeartbeats 4000000 in
set_option maxRecDepth 100000 in
theorem k_X5_orderOfPoints_22 {E : vE} {T : Nat → ClassId} {o_p0 : Nat} {a_p0 : Nat → Nat} {s_p0_there : Int32} {s_p0_kind : Int32} {s_p0_tag : Int32} {s_p0_size : Int32} {s_p0_lineCount : Int32} {s_p0_through : Nat → Int64} {x_1 : Int32} {Q : Int32 → Prop} (X : vX E cX5_orderOfPoints 3 RX5 wsX5_orderOfPoints (vT T) (vr 1 21)) (r : r_X5_orderOfPoints E T o_p0 a_p0 s_p0_there s_p0_kind s_p0_tag s_p0_size s_p0_lineCount s_p0_through Q) : ∀ (n_ : Nat) (x_2 : Int32), w_X5_orderOfPoints_22 x_1 s_p0_size s_p0_lineCount s_p0_through Q n_ x_2 → V E 0 0 22 [(0, .ref o_p0), (1, .int x_1), (2, .int x_2)] [] (cl_X5_orderOfPoints T o_p0 a_p0 s_p0_there s_p0_kind s_p0_tag s_p0_size s_p0_lineCount s_p0_through) := by
  intro n_
  induction n_ with
  | zero => intro x_2 h; exact h.elim
  | succ n_ hK_22 =>
    intro x_2 h
    replace h : w_X5_orderOfPoints_22s x_1 s_p0_size s_p0_lineCount s_p0_through Q (w_X5_orderOfPoints_22 x_1 s_p0_size s_p0_lineCount s_p0_through Q n_) x_2 := h
    unfold w_X5_orderOfPoints_22s at h
    refine v_iload_n X 2 dX5_orderOfPoints_22 rfl rfl ?_
    refine v_aload_n X 0 dX5_orderOfPoints_23 rfl rfl ?_
    refine v_get X 0 6 (F := TX5) (N := 8) iX5_orderOfPoints_X5 rfl rfl (by decide) (List.mem_of_getElem? (i := 3) rfl) rfl rfl dX5_orderOfPoints_24 ?_
    refine v_icmp_ge X (tgt := 52) dX5_orderOfPoints_27 (by decide) (fun c_27 => ?_) (fun c_27 => ?_)
    · replace h := h.1 c_27
      refine v_iload_n X 1 dX5_orderOfPoints_52 rfl rfl ?_
      refine v_iconst X dX5_orderOfPoints_53 (v := (1 : Int32)) (by decide) ?_
      refine v_isub X dX5_orderOfPoints_54 ?_
      exact r _ _ _ () _ dX5_orderOfPoints_55 h rfl
    · replace h := h.2 c_27
      refine v_aload_n X 0 dX5_orderOfPoints_30 rfl rfl ?_
      refine v_get X 0 1 (F := TX5) (N := 8) iX5_orderOfPoints_X5 rfl rfl (by decide) (List.mem_of_getElem? (i := 2) rfl) rfl rfl dX5_orderOfPoints_31 ?_
      refine v_iload_n X 2 dX5_orderOfPoints_34 rfl rfl ?_
      refine v_lald X 1 1 rfl rfl h.1 dX5_orderOfPoints_35 ?_
      replace h := h.2
      refine v_callSi0 X (As := [.long (s_p0_through (x_2).toNatClampNeg)]) (rest := []) 1 (c_J13_bitCount_95d88 (l := vl E) (D := vD E) (T := T) (x_0 := (s_p0_through (x_2).toNatClampNeg)) h) gX5_orderOfPoints_J13_bitCount_95d88 rfl rfl (by decide +kernel) ⟨Nat.zero_le _, Nat.zero_le _⟩ ⟨rfl, rfl, by decide, by decide⟩ (Nat.le_of_ble_eq_true rfl) rfl dX5_orderOfPoints_36 (fun r_36 h => ?_)
      refine v_iload_n X 1 dX5_orderOfPoints_39 rfl rfl ?_
      refine v_icmp_eq X (tgt := 46) dX5_orderOfPoints_40 (by decide) (fun c_40 => ?_) (fun c_40 => ?_)
      · replace h := h.1 c_40
        refine v_iinc X (v := (x_2 + (1 : Int32))) (lv' := [(2, .int (x_2 + (1 : Int32))), (0, .ref o_p0), (1, .int x_1)]) 2 dX5_orderOfPoints_46 rfl rfl (by decide) rfl ?_
        refine v_goto X (tgt := 22) dX5_orderOfPoints_49 (by decide) ?_
        refine v_lv (lv' := [(0, .ref o_p0), (1, .int x_1), (2, .int (x_2 + (1 : Int32)))]) [1, 2, 0] rfl ?_
        exact hK_22 _ h
      · replace h := h.2 c_40
        refine v_bipush X dX5_orderOfPoints_43 (v := (-9 : Int32)) (by decide) ?_
        exact r _ _ _ () _ dX5_orderOfPoints_45 h rfl
set_option maxHeartbeats 4000000 in
set_option maxRecDepth 100000 in
theorem c_X5_orderOfPoints {l : Launch} {D : va_G} {T : Nat → ClassId} {o_p0 : Nat} {a_p0 : Nat → Nat} {s_p0_there : Int32} {s_p0_kind : Int32} {s_p0_tag : Int32} {s_p0_size : Int32} {s_p0_lineCount : Int32} {s_p0_through : Nat → Int64} {Q : Int32 → Prop} (h : w_X5_orderOfPoints s_p0_size s_p0_lineCount s_p0_through Q) : vCi l D (vT T) yX5_orderOfPoints wsX5_orderOfPoints (vr 1 21) [.ref o_p0] (cl_X5_orderOfPoints T o_p0 a_p0 s_p0_there s_p0_kind s_p0_tag s_p0_size s_p0_lineCount s_p0_through) (fun v (u : Unit) => Q v) (fun (u : Unit) => (cl_X5_orderOfPoints T o_p0 a_p0 s_p0_there s_p0_kind s_p0_tag s_p0_size s_p0_lineCount s_p0_through)) := by
  refine vC_i (cc := cX5_orderOfPoints) (nL := 3) (by decide +kernel) rfl ⟨rfl, rfl⟩ (Nat.le_of_ble_eq_true rfl) rfl ?_
  intro E el eD X r
  unfold w_X5_orderOfPoints at h
  refine v_aload_n X 0 dX5_orderOfPoints_0 rfl rfl ?_
  refine v_get X 0 7 (F := TX5) (N := 8) iX5_orderOfPoints_X5 rfl rfl (by decide) (List.mem_of_getElem? (i := 1) rfl) rfl rfl dX5_orderOfPoints_1 ?_
  refine v_if_ne X (tgt := 10) dX5_orderOfPoints_4 (by decide) (fun c_4 => ?_) (fun c_4 => ?_)
  · replace h := h.1 c_4
    refine v_aload_n X 0 dX5_orderOfPoints_10 rfl rfl ?_
    refine v_get X 0 1 (F := TX5) (N := 8) iX5_orderOfPoints_X5 rfl rfl (by decide) (List.mem_of_getElem? (i := 2) rfl) rfl rfl dX5_orderOfPoints_11 ?_
    refine v_iconst X dX5_orderOfPoints_14 (v := (0 : Int32)) (by decide) ?_
    refine v_lald X 1 1 rfl rfl h.1 dX5_orderOfPoints_15 ?_
    replace h := h.2
    refine v_callSi0 X (As := [.long (s_p0_through ((0 : Int32)).toNatClampNeg)]) (rest := []) 1 (c_J13_bitCount_95d88 (l := vl E) (D := vD E) (T := T) (x_0 := (s_p0_through ((0 : Int32)).toNatClampNeg)) h) gX5_orderOfPoints_J13_bitCount_95d88 rfl rfl (by decide +kernel) ⟨Nat.zero_le _, Nat.zero_le _⟩ ⟨rfl, rfl, by decide, by decide⟩ (Nat.le_of_ble_eq_true rfl) rfl dX5_orderOfPoints_16 (fun r_16 h => ?_)
    refine v_istore_n X (lv' := [(1, .int r_16), (0, .ref o_p0)]) dX5_orderOfPoints_19 rfl (by decide) rfl ?_
    refine v_iconst X dX5_orderOfPoints_20 (v := (1 : Int32)) (by decide) ?_
    refine v_istore_n X (lv' := [(2, .int (1 : Int32)), (1, .int r_16), (0, .ref o_p0)]) dX5_orderOfPoints_21 rfl (by decide) rfl ?_
    refine v_lv (lv' := [(0, .ref o_p0), (1, .int r_16), (2, .int (1 : Int32))]) [2, 1, 0] rfl ?_
    obtain ⟨n_, h⟩ := h
    exact k_X5_orderOfPoints_22 X r n_ _ h
  · replace h := h.2 c_4
    refine v_bipush X dX5_orderOfPoints_7 (v := (-9 : Int32)) (by decide) ?_
    exact r _ _ _ () _ dX5_orderOfPoints_9 h rfl
-- X5_isRegular
abbrev cl_X5_isRegular (T : Nat → ClassId) (o_p0 : Nat) (a_p0 : Nat → Nat) (s_p0_there : Int32) (s_p0_kind : Int32) (s_p0_tag : Int32) (s_p0_size : Int32) (s_p0_lineCount : Int32) (s_p0_near : Nat → Int64) (s_p0_through : Nat → Int64) : va_W := [vO o_p0 2 [.ref (a_p0 0), .ref (a_p0 1), .ref (a_p0 2), .int s_p0_there, .int s_p0_kind, .int s_p0_tag, .int s_p0_size, .int s_p0_lineCount], vJ T (a_p0 2) 45 s_p0_near, vJ T (a_p0 1) 45 s_p0_through]
abbrev r_X5_isRegular (E : vE) (T : Nat → ClassId) (o_p0 : Nat) (a_p0 : Nat → Nat) (s_p0_there : Int32) (s_p0_kind : Int32) (s_p0_tag : Int32) (s_p0_size : Int32) (s_p0_lineCount : Int32) (s_p0_near : Nat → Int64) (s_p0_through : Nat → Int64) (Q : Int32 → Prop) : Prop := vRz E cX5_isRegular (fun v (u : Unit) => Q v) (fun (u : Unit) => (cl_X5_isRegular T o_p0 a_p0 s_p0_there s_p0_kind s_p0_tag s_p0_size s_p0_lineCount s_p0_near s_p0_through))
def w_X5_isRegular_41 (x_1 : Int32) (x_2 : Int32) (x_3 : Int32) (s_p0_size : Int32) (s_p0_lineCount : Int32) (s_p0_near : Nat → Int64) (s_p0_through : Nat → Int64) (K_9 : (Int32) → Prop) (Q : Int32 → Prop) : Prop := (K_9 (x_3 + (1 : Int32)))
def w_X5_isRegular_9s (x_1 : Int32) (x_2 : Int32) (s_p0_size : Int32) (s_p0_lineCount : Int32) (s_p0_near : Nat → Int64) (s_p0_through : Nat → Int64) (Q : Int32 → Prop) (K_9 : (Int32) → Prop) (x_3 : Int32) : Prop := ((s_p0_size ≤ x_3 → (vz (1 : Int32) ∧ Q (1 : Int32))) ∧ (¬ s_p0_size ≤ x_3 → (w_X5_areNear x_1 x_3 s_p0_near (fun (r_20 : Int32) => ((¬ r_20 = 0 → (w_X5_isRegular_41 x_1 x_2 x_3 s_p0_size s_p0_lineCount s_p0_near s_p0_through K_9 Q)) ∧ (r_20 = 0 → (w_X5_spanSet x_1 x_3 s_p0_size s_p0_near (fun (r_29 : Int64) => (w_J13_bitCount_95d88 r_29 (fun (r_32 : Int32) => ((r_32 = x_2 → (w_X5_isRegular_41 x_1 x_2 x_3 s_p0_size s_p0_lineCount s_p0_near s_p0_through K_9 Q)) ∧ (¬ r_32 = x_2 → (vz (0 : Int32) ∧ Q (0 : Int32))))))))))))))
def w_X5_isRegular_9 (x_1 : Int32) (x_2 : Int32) (s_p0_size : Int32) (s_p0_lineCount : Int32) (s_p0_near : Nat → Int64) (s_p0_through : Nat → Int64) (Q : Int32 → Prop) : Nat → (Int32) → Prop
  | 0 => fun _ => False
  | n_ + 1 => w_X5_isRegular_9s x_1 x_2 s_p0_size s_p0_lineCount s_p0_near s_p0_through Q (w_X5_isRegular_9 x_1 x_2 s_p0_size s_p0_lineCount s_p0_near s_p0_through Q n_)
def w_X5_isRegular (x_1 : Int32) (s_p0_size : Int32) (s_p0_lineCount : Int32) (s_p0_near : Nat → Int64) (s_p0_through : Nat → Int64) (Q : Int32 → Prop) : Prop := (w_X5_orderOfPoints s_p0_size s_p0_lineCount s_p0_through (fun (r_1 : Int32) => (∃ n_, w_X5_isRegular_9 x_1 (r_1 + (1 : Int32)) s_p0_size s_p0_lineCount s_p0_near s_p0_through Q n_ (0 : Int32))))
-- X5_isRegular
theorem iX5_isRegular_X5 : ∀ w ∈ wsX50, w ∈ wsX5_isRegular := by decide +kernel
set_option maxHeartbeats 4000000 in
set_option maxRecDepth 100000 in
theorem k_X5_isRegular_41 {E : vE} {T : Nat → ClassId} {o_p0 : Nat} {a_p0 : Nat → Nat} {s_p0_there : Int32} {s_p0_kind : Int32} {s_p0_tag : Int32} {s_p0_size : Int32} {s_p0_lineCount : Int32} {s_p0_near : Nat → Int64} {s_p0_through : Nat → Int64} {x_1 : Int32} {x_2 : Int32} {x_3 : Int32} {K_9 : (Int32) → Prop} {Q : Int32 → Prop} (X : vX E cX5_isRegular 4 RX5 wsX5_isRegular (vT T) (vr 3 69)) (r : r_X5_isRegular E T o_p0 a_p0 s_p0_there s_p0_kind s_p0_tag s_p0_size s_p0_lineCount s_p0_near s_p0_through Q) (hK_9 : ∀ (x_3' : Int32), K_9 x_3' → V E 0 0 9 [(0, .ref o_p0), (1, .int x_1), (2, .int x_2), (3, .int x_3')] [] (cl_X5_isRegular T o_p0 a_p0 s_p0_there s_p0_kind s_p0_tag s_p0_size s_p0_lineCount s_p0_near s_p0_through)) (h : w_X5_isRegular_41 x_1 x_2 x_3 s_p0_size s_p0_lineCount s_p0_near s_p0_through K_9 Q) : V E 0 0 41 [(0, .ref o_p0), (1, .int x_1), (2, .int x_2), (3, .int x_3)] [] (cl_X5_isRegular T o_p0 a_p0 s_p0_there s_p0_kind s_p0_tag s_p0_size s_p0_lineCount s_p0_near s_p0_through) := by
  unfold w_X5_isRegular_41 at h
  refine v_iinc X (v := (x_3 + (1 : Int32))) (lv' := [(3, .int (x_3 + (1 : Int32))), (0, .ref o_p0), (1, .int x_1), (2, .int x_2)]) 3 dX5_isRegular_41 rfl rfl (by decide) rfl ?_
  refine v_goto X (tgt := 9) dX5_isRegular_44 (by decide) ?_
  refine v_lv (lv' := [(0, .ref o_p0), (1, .int x_1), (2, .int x_2), (3, .int (x_3 + (1 : Int32)))]) [1, 2, 3, 0] rfl ?_
  exact hK_9 _ h
set_option maxHeartbeats 4000000 in
set_option maxRecDepth 100000 in
theorem k_X5_isRegular_9 {E : vE} {T : Nat → ClassId} {o_p0 : Nat} {a_p0 : Nat → Nat} {s_p0_there : Int32} {s_p0_kind : Int32} {s_p0_tag : Int32} {s_p0_size : Int32} {s_p0_lineCount : Int32} {s_p0_near : Nat → Int64} {s_p0_through : Nat → Int64} {x_1 : Int32} {x_2 : Int32} {Q : Int32 → Prop} (X : vX E cX5_isRegular 4 RX5 wsX5_isRegular (vT T) (vr 3 69)) (r : r_X5_isRegular E T o_p0 a_p0 s_p0_there s_p0_kind s_p0_tag s_p0_size s_p0_lineCount s_p0_near s_p0_through Q) : ∀ (n_ : Nat) (x_3 : Int32), w_X5_isRegular_9 x_1 x_2 s_p0_size s_p0_lineCount s_p0_near s_p0_through Q n_ x_3 → V E 0 0 9 [(0, .ref o_p0), (1, .int x_1), (2, .int x_2), (3, .int x_3)] [] (cl_X5_isRegular T o_p0 a_p0 s_p0_there s_p0_kind s_p0_tag s_p0_size s_p0_lineCount s_p0_near s_p0_through) := by
  intro n_
  induction n_ with
  | zero => intro x_3 h; exact h.elim
  | succ n_ hK_9 =>
    intro x_3 h
    replace h : w_X5_isRegular_9s x_1 x_2 s_p0_size s_p0_lineCount s_p0_near s_p0_through Q (w_X5_isRegular_9 x_1 x_2 s_p0_size s_p0_lineCount s_p0_near s_p0_through Q n_) x_3 := h
    unfold w_X5_isRegular_9s at h
    refine v_iload_n X 3 dX5_isRegular_9 rfl rfl ?_
    refine v_aload_n X 0 dX5_isRegular_10 rfl rfl ?_
    refine v_get X 0 6 (F := TX5) (N := 8) iX5_isRegular_X5 rfl rfl (by decide) (List.mem_of_getElem? (i := 1) rfl) rfl rfl dX5_isRegular_11 ?_
    refine v_icmp_ge X (tgt := 47) dX5_isRegular_14 (by decide) (fun c_14 => ?_) (fun c_14 => ?_)
    · replace h := h.1 c_14
      refine v_iconst X dX5_isRegular_47 (v := (1 : Int32)) (by decide) ?_
      exact r _ _ _ () _ dX5_isRegular_48 h.1 h.2 rfl
    · replace h := h.2 c_14
      refine v_aload_n X 0 dX5_isRegular_17 rfl rfl ?_
      refine v_iload_n X 1 dX5_isRegular_18 rfl rfl ?_
      refine v_iload_n X 3 dX5_isRegular_19 rfl rfl ?_
      refine v_callVi X (As := [.int x_1, .int x_3]) (rest := []) 2 0 (c_X5_areNear (l := vl E) (D := vD E) (T := T) (o_p0 := o_p0) (a_p0 := a_p0) (s_p0_there := s_p0_there) (s_p0_kind := s_p0_kind) (s_p0_tag := s_p0_tag) (s_p0_size := s_p0_size) (s_p0_lineCount := s_p0_lineCount) (s_p0_near := s_p0_near) (x_1 := x_1) (x_2 := x_3) h) gX5_isRegular_X5_areNear rfl rfl (by decide +kernel) ⟨Nat.zero_le _, Nat.zero_le _⟩ ⟨rfl, rfl, by decide, by decide⟩ (Nat.le_of_ble_eq_true rfl) rfl rfl (wr := [vJ T (a_p0 1) 45 s_p0_through]) [0, 1] [2] rfl rfl rfl rfl (by decide) rfl dX5_isRegular_20 (fun r_20 u h => ?_)
      refine v_ws (ws' := (cl_X5_isRegular T o_p0 a_p0 s_p0_there s_p0_kind s_p0_tag s_p0_size s_p0_lineCount s_p0_near s_p0_through)) [1, 2, 0] rfl rfl ?_
      refine v_if_ne X (tgt := 41) dX5_isRegular_23 (by decide) (fun c_23 => ?_) (fun c_23 => ?_)
      · replace h := h.1 c_23
        exact k_X5_isRegular_41 X r hK_9 h
      · replace h := h.2 c_23
        refine v_aload_n X 0 dX5_isRegular_26 rfl rfl ?_
        refine v_iload_n X 1 dX5_isRegular_27 rfl rfl ?_
        refine v_iload_n X 3 dX5_isRegular_28 rfl rfl ?_
        refine v_callVl X (As := [.int x_1, .int x_3]) (rest := []) 2 0 (c_X5_spanSet (l := vl E) (D := vD E) (T := T) (o_p0 := o_p0) (a_p0 := a_p0) (s_p0_there := s_p0_there) (s_p0_kind := s_p0_kind) (s_p0_tag := s_p0_tag) (s_p0_size := s_p0_size) (s_p0_lineCount := s_p0_lineCount) (s_p0_near := s_p0_near) (x_1 := x_1) (x_2 := x_3) h) gX5_isRegular_X5_spanSet rfl rfl (by decide +kernel) ⟨Nat.zero_le _, Nat.zero_le _⟩ ⟨rfl, rfl, by decide, by decide⟩ (Nat.le_of_ble_eq_true rfl) rfl rfl (wr := [vJ T (a_p0 1) 45 s_p0_through]) [0, 1] [2] rfl rfl rfl rfl (by decide) rfl dX5_isRegular_29 (fun r_29 u h => ?_)
        refine v_ws (ws' := (cl_X5_isRegular T o_p0 a_p0 s_p0_there s_p0_kind s_p0_tag s_p0_size s_p0_lineCount s_p0_near s_p0_through)) [1, 2, 0] rfl rfl ?_
        refine v_callSi0 X (As := [.long r_29]) (rest := []) 1 (c_J13_bitCount_95d88 (l := vl E) (D := vD E) (T := T) (x_0 := r_29) h) gX5_isRegular_J13_bitCount_95d88 rfl rfl (by decide +kernel) ⟨Nat.zero_le _, Nat.zero_le _⟩ ⟨rfl, rfl, by decide, by decide⟩ (Nat.le_of_ble_eq_true rfl) rfl dX5_isRegular_32 (fun r_32 h => ?_)
        refine v_iload_n X 2 dX5_isRegular_35 rfl rfl ?_
        refine v_icmp_eq X (tgt := 41) dX5_isRegular_36 (by decide) (fun c_36 => ?_) (fun c_36 => ?_)
        · replace h := h.1 c_36
          exact k_X5_isRegular_41 X r hK_9 h
        · replace h := h.2 c_36
          refine v_iconst X dX5_isRegular_39 (v := (0 : Int32)) (by decide) ?_
          exact r _ _ _ () _ dX5_isRegular_40 h.1 h.2 rfl
set_option maxHeartbeats 4000000 in
set_option maxRecDepth 100000 in
theorem c_X5_isRegular {l : Launch} {D : va_G} {T : Nat → ClassId} {o_p0 : Nat} {a_p0 : Nat → Nat} {s_p0_there : Int32} {s_p0_kind : Int32} {s_p0_tag : Int32} {s_p0_size : Int32} {s_p0_lineCount : Int32} {s_p0_near : Nat → Int64} {s_p0_through : Nat → Int64} {x_1 : Int32} {Q : Int32 → Prop} (h : w_X5_isRegular x_1 s_p0_size s_p0_lineCount s_p0_near s_p0_through Q) : vCi l D (vT T) yX5_isRegular wsX5_isRegular (vr 3 69) [.ref o_p0, .int x_1] (cl_X5_isRegular T o_p0 a_p0 s_p0_there s_p0_kind s_p0_tag s_p0_size s_p0_lineCount s_p0_near s_p0_through) (fun v (u : Unit) => Q v) (fun (u : Unit) => (cl_X5_isRegular T o_p0 a_p0 s_p0_there s_p0_kind s_p0_tag s_p0_size s_p0_lineCount s_p0_near s_p0_through)) := by
  refine vC_z (cc := cX5_isRegular) (nL := 4) (by decide +kernel) rfl ⟨rfl, rfl⟩ (Nat.le_of_ble_eq_true rfl) rfl ?_
  intro E el eD X r
  unfold w_X5_isRegular at h
  refine v_aload_n X 0 dX5_isRegular_0 rfl rfl ?_
  refine v_callVi X (As := []) (rest := []) 0 0 (c_X5_orderOfPoints (l := vl E) (D := vD E) (T := T) (o_p0 := o_p0) (a_p0 := a_p0) (s_p0_there := s_p0_there) (s_p0_kind := s_p0_kind) (s_p0_tag := s_p0_tag) (s_p0_size := s_p0_size) (s_p0_lineCount := s_p0_lineCount) (s_p0_through := s_p0_through) h) gX5_isRegular_X5_orderOfPoints rfl rfl (by decide +kernel) ⟨Nat.zero_le _, Nat.zero_le _⟩ ⟨rfl, rfl, by decide, by decide⟩ (Nat.le_of_ble_eq_true rfl) rfl rfl (wr := [vJ T (a_p0 2) 45 s_p0_near]) [0, 2] [1] rfl rfl rfl rfl (by decide) rfl dX5_isRegular_1 (fun r_1 u h => ?_)
  refine v_ws (ws' := (cl_X5_isRegular T o_p0 a_p0 s_p0_there s_p0_kind s_p0_tag s_p0_size s_p0_lineCount s_p0_near s_p0_through)) [1, 0, 2] rfl rfl ?_
  refine v_iconst X dX5_isRegular_4 (v := (1 : Int32)) (by decide) ?_
  refine v_iadd X dX5_isRegular_5 ?_
  refine v_istore_n X (lv' := [(2, .int (r_1 + (1 : Int32))), (0, .ref o_p0), (1, .int x_1)]) dX5_isRegular_6 rfl (by decide) rfl ?_
  refine v_iconst X dX5_isRegular_7 (v := (0 : Int32)) (by decide) ?_
  refine v_istore_n X (lv' := [(3, .int (0 : Int32)), (2, .int (r_1 + (1 : Int32))), (0, .ref o_p0), (1, .int x_1)]) dX5_isRegular_8 rfl (by decide) rfl ?_
  refine v_lv (lv' := [(0, .ref o_p0), (1, .int x_1), (2, .int (r_1 + (1 : Int32))), (3, .int (0 : Int32))]) [2, 3, 1, 0] rfl ?_
  obtain ⟨n_, h⟩ := h
  exact k_X5_isRegular_9 X r n_ _ h
-- X5_orderOfLines
abbrev cl_X5_orderOfLines (T : Nat → ClassId) (o_p0 : Nat) (a_p0 : Nat → Nat) (s_p0_there : Int32) (s_p0_kind : Int32) (s_p0_tag : Int32) (s_p0_size : Int32) (s_p0_lineCount : Int32) (s_p0_sets : Nat → Int64) : va_W := [vO o_p0 2 [.ref (a_p0 0), .ref (a_p0 1), .ref (a_p0 2), .int s_p0_there, .int s_p0_kind, .int s_p0_tag, .int s_p0_size, .int s_p0_lineCount], vJ T (a_p0 0) 45 s_p0_sets]
abbrev r_X5_orderOfLines (E : vE) (T : Nat → ClassId) (o_p0 : Nat) (a_p0 : Nat → Nat) (s_p0_there : Int32) (s_p0_kind : Int32) (s_p0_tag : Int32) (s_p0_size : Int32) (s_p0_lineCount : Int32) (s_p0_sets : Nat → Int64) (Q : Int32 → Prop) : Prop := vRi E cX5_orderOfLines (fun v (u : Unit) => Q v) (fun (u : Unit) => (cl_X5_orderOfLines T o_p0 a_p0 s_p0_there s_p0_kind s_p0_tag s_p0_size s_p0_lineCount s_p0_sets))
def w_X5_orderOfLines_22s (x_1 : Int32) (s_p0_lineCount : Int32) (s_p0_sets : Nat → Int64) (Q : Int32 → Prop) (K_22 : (Int32) → Prop) (x_2 : Int32) : Prop := ((s_p0_lineCount ≤ x_2 → (Q (x_1 - (1 : Int32)))) ∧ (¬ s_p0_lineCount ≤ x_2 → (vp_in x_2 45 ∧ (w_J13_bitCount_95d88 (s_p0_sets (x_2).toNatClampNeg) (fun (r_36 : Int32) => ((r_36 = x_1 → (K_22 (x_2 + (1 : Int32)))) ∧ (¬ r_36 = x_1 → (Q (-9 : Int32)))))))))
def w_X5_orderOfLines_22 (x_1 : Int32) (s_p0_lineCount : Int32) (s_p0_sets : Nat → Int64) (Q : Int32 → Prop) : Nat → (Int32) → Prop
  | 0 => fun _ => False
  | n_ + 1 => w_X5_orderOfLines_22s x_1 s_p0_lineCount s_p0_sets Q (w_X5_orderOfLines_22 x_1 s_p0_lineCount s_p0_sets Q n_)
def w_X5_orderOfLines (s_p0_lineCount : Int32) (s_p0_sets : Nat → Int64) (Q : Int32 → Prop) : Prop := ((¬ s_p0_lineCount = 0 → (vp_in (0 : Int32) 45 ∧ (w_J13_bitCount_95d88 (s_p0_sets ((0 : Int32)).toNatClampNeg) (fun (r_16 : Int32) => (∃ n_, w_X5_orderOfLines_22 r_16 s_p0_lineCount s_p0_sets Q n_ (1 : Int32)))))) ∧ (s_p0_lineCount = 0 → (Q (-9 : Int32))))
-- X5_orderOfLines
theorem iX5_orderOfLines_X5 : ∀ w ∈ wsX50, w ∈ wsX5_orderOfLines := by decide +kernel
set_option maxHeartbeats 4000000 in
set_option maxRecDepth 100000 in
theorem k_X5_orderOfLines_22 {E : vE} {T : Nat → ClassId} {o_p0 : Nat} {a_p0 : Nat → Nat} {s_p0_there : Int32} {s_p0_kind : Int32} {s_p0_tag : Int32} {s_p0_size : Int32} {s_p0_lineCount : Int32} {s_p0_sets : Nat → Int64} {x_1 : Int32} {Q : Int32 → Prop} (X : vX E cX5_orderOfLines 3 RX5 wsX5_orderOfLines (vT T) (vr 1 21)) (r : r_X5_orderOfLines E T o_p0 a_p0 s_p0_there s_p0_kind s_p0_tag s_p0_size s_p0_lineCount s_p0_sets Q) : ∀ (n_ : Nat) (x_2 : Int32), w_X5_orderOfLines_22 x_1 s_p0_lineCount s_p0_sets Q n_ x_2 → V E 0 0 22 [(0, .ref o_p0), (1, .int x_1), (2, .int x_2)] [] (cl_X5_orderOfLines T o_p0 a_p0 s_p0_there s_p0_kind s_p0_tag s_p0_size s_p0_lineCount s_p0_sets) := by
  intro n_
  induction n_ with
  | zero => intro x_2 h; exact h.elim
  | succ n_ hK_22 =>
    intro x_2 h
    replace h : w_X5_orderOfLines_22s x_1 s_p0_lineCount s_p0_sets Q (w_X5_orderOfLines_22 x_1 s_p0_lineCount s_p0_sets Q n_) x_2 := h
    unfold w_X5_orderOfLines_22s at h
    refine v_iload_n X 2 dX5_orderOfLines_22 rfl rfl ?_
    refine v_aload_n X 0 dX5_orderOfLines_23 rfl rfl ?_
    refine v_get X 0 7 (F := TX5) (N := 8) iX5_orderOfLines_X5 rfl rfl (by decide) (List.mem_of_getElem? (i := 1) rfl) rfl rfl dX5_orderOfLines_24 ?_
    refine v_icmp_ge X (tgt := 52) dX5_orderOfLines_27 (by decide) (fun c_27 => ?_) (fun c_27 => ?_)
    · replace h := h.1 c_27
      refine v_iload_n X 1 dX5_orderOfLines_52 rfl rfl ?_
      refine v_iconst X dX5_orderOfLines_53 (v := (1 : Int32)) (by decide) ?_
      refine v_isub X dX5_orderOfLines_54 ?_
      exact r _ _ _ () _ dX5_orderOfLines_55 h rfl
    · replace h := h.2 c_27
      refine v_aload_n X 0 dX5_orderOfLines_30 rfl rfl ?_
      refine v_get X 0 0 (F := TX5) (N := 8) iX5_orderOfLines_X5 rfl rfl (by decide) (List.mem_of_getElem? (i := 2) rfl) rfl rfl dX5_orderOfLines_31 ?_
      refine v_iload_n X 2 dX5_orderOfLines_34 rfl rfl ?_
      refine v_lald X 1 1 rfl rfl h.1 dX5_orderOfLines_35 ?_
      replace h := h.2
      refine v_callSi0 X (As := [.long (s_p0_sets (x_2).toNatClampNeg)]) (rest := []) 1 (c_J13_bitCount_95d88 (l := vl E) (D := vD E) (T := T) (x_0 := (s_p0_sets (x_2).toNatClampNeg)) h) gX5_orderOfLines_J13_bitCount_95d88 rfl rfl (by decide +kernel) ⟨Nat.zero_le _, Nat.zero_le _⟩ ⟨rfl, rfl, by decide, by decide⟩ (Nat.le_of_ble_eq_true rfl) rfl dX5_orderOfLines_36 (fun r_36 h => ?_)
      refine v_iload_n X 1 dX5_orderOfLines_39 rfl rfl ?_
      refine v_icmp_eq X (tgt := 46) dX5_orderOfLines_40 (by decide) (fun c_40 => ?_) (fun c_40 => ?_)
      · replace h := h.1 c_40
        refine v_iinc X (v := (x_2 + (1 : Int32))) (lv' := [(2, .int (x_2 + (1 : Int32))), (0, .ref o_p0), (1, .int x_1)]) 2 dX5_orderOfLines_46 rfl rfl (by decide) rfl ?_
        refine v_goto X (tgt := 22) dX5_orderOfLines_49 (by decide) ?_
        refine v_lv (lv' := [(0, .ref o_p0), (1, .int x_1), (2, .int (x_2 + (1 : Int32)))]) [1, 2, 0] rfl ?_
        exact hK_22 _ h
      · replace h := h.2 c_40
        refine v_bipush X dX5_orderOfLines_43 (v := (-9 : Int32)) (by decide) ?_
        exact r _ _ _ () _ dX5_orderOfLines_45 h rfl
set_option maxHeartbeats 4000000 in
set_option maxRecDepth 100000 in
theorem c_X5_orderOfLines {l : Launch} {D : va_G} {T : Nat → ClassId} {o_p0 : Nat} {a_p0 : Nat → Nat} {s_p0_there : Int32} {s_p0_kind : Int32} {s_p0_tag : Int32} {s_p0_size : Int32} {s_p0_lineCount : Int32} {s_p0_sets : Nat → Int64} {Q : Int32 → Prop} (h : w_X5_orderOfLines s_p0_lineCount s_p0_sets Q) : vCi l D (vT T) yX5_orderOfLines wsX5_orderOfLines (vr 1 21) [.ref o_p0] (cl_X5_orderOfLines T o_p0 a_p0 s_p0_there s_p0_kind s_p0_tag s_p0_size s_p0_lineCount s_p0_sets) (fun v (u : Unit) => Q v) (fun (u : Unit) => (cl_X5_orderOfLines T o_p0 a_p0 s_p0_there s_p0_kind s_p0_tag s_p0_size s_p0_lineCount s_p0_sets)) := by
  refine vC_i (cc := cX5_orderOfLines) (nL := 3) (by decide +kernel) rfl ⟨rfl, rfl⟩ (Nat.le_of_ble_eq_true rfl) rfl ?_
  intro E el eD X r
  unfold w_X5_orderOfLines at h
  refine v_aload_n X 0 dX5_orderOfLines_0 rfl rfl ?_
  refine v_get X 0 7 (F := TX5) (N := 8) iX5_orderOfLines_X5 rfl rfl (by decide) (List.mem_of_getElem? (i := 1) rfl) rfl rfl dX5_orderOfLines_1 ?_
  refine v_if_ne X (tgt := 10) dX5_orderOfLines_4 (by decide) (fun c_4 => ?_) (fun c_4 => ?_)
  · replace h := h.1 c_4
    refine v_aload_n X 0 dX5_orderOfLines_10 rfl rfl ?_
    refine v_get X 0 0 (F := TX5) (N := 8) iX5_orderOfLines_X5 rfl rfl (by decide) (List.mem_of_getElem? (i := 2) rfl) rfl rfl dX5_orderOfLines_11 ?_
    refine v_iconst X dX5_orderOfLines_14 (v := (0 : Int32)) (by decide) ?_
    refine v_lald X 1 1 rfl rfl h.1 dX5_orderOfLines_15 ?_
    replace h := h.2
    refine v_callSi0 X (As := [.long (s_p0_sets ((0 : Int32)).toNatClampNeg)]) (rest := []) 1 (c_J13_bitCount_95d88 (l := vl E) (D := vD E) (T := T) (x_0 := (s_p0_sets ((0 : Int32)).toNatClampNeg)) h) gX5_orderOfLines_J13_bitCount_95d88 rfl rfl (by decide +kernel) ⟨Nat.zero_le _, Nat.zero_le _⟩ ⟨rfl, rfl, by decide, by decide⟩ (Nat.le_of_ble_eq_true rfl) rfl dX5_orderOfLines_16 (fun r_16 h => ?_)
    refine v_istore_n X (lv' := [(1, .int r_16), (0, .ref o_p0)]) dX5_orderOfLines_19 rfl (by decide) rfl ?_
    refine v_iconst X dX5_orderOfLines_20 (v := (1 : Int32)) (by decide) ?_
    refine v_istore_n X (lv' := [(2, .int (1 : Int32)), (1, .int r_16), (0, .ref o_p0)]) dX5_orderOfLines_21 rfl (by decide) rfl ?_
    refine v_lv (lv' := [(0, .ref o_p0), (1, .int r_16), (2, .int (1 : Int32))]) [2, 1, 0] rfl ?_
    obtain ⟨n_, h⟩ := h
    exact k_X5_orderOfLines_22 X r n_ _ h
  · replace h := h.2 c_4
    refine v_bipush X dX5_orderOfLines_7 (v := (-9 : Int32)) (by decide) ?_
    exact r _ _ _ () _ dX5_orderOfLines_9 h rfl
-- X5_leastThrough
abbrev cl_X5_leastThrough (T : Nat → ClassId) (o_p0 : Nat) (a_p0 : Nat → Nat) (s_p0_there : Int32) (s_p0_kind : Int32) (s_p0_tag : Int32) (s_p0_size : Int32) (s_p0_lineCount : Int32) (s_p0_through : Nat → Int64) : va_W := [vO o_p0 2 [.ref (a_p0 0), .ref (a_p0 1), .ref (a_p0 2), .int s_p0_there, .int s_p0_kind, .int s_p0_tag, .int s_p0_size, .int s_p0_lineCount], vJ T (a_p0 1) 45 s_p0_through]
abbrev r_X5_leastThrough (E : vE) (T : Nat → ClassId) (o_p0 : Nat) (a_p0 : Nat → Nat) (s_p0_there : Int32) (s_p0_kind : Int32) (s_p0_tag : Int32) (s_p0_size : Int32) (s_p0_lineCount : Int32) (s_p0_through : Nat → Int64) (Q : Int32 → Prop) : Prop := vRi E cX5_leastThrough (fun v (u : Unit) => Q v) (fun (u : Unit) => (cl_X5_leastThrough T o_p0 a_p0 s_p0_there s_p0_kind s_p0_tag s_p0_size s_p0_lineCount s_p0_through))
def w_X5_leastThrough_5s (s_p0_size : Int32) (s_p0_through : Nat → Int64) (Q : Int32 → Prop) (K_5 : (Int32) → (Int32) → Prop) (x_1 : Int32) (x_2 : Int32) : Prop := ((s_p0_size ≤ x_2 → (Q x_1)) ∧ (¬ s_p0_size ≤ x_2 → (vp_in x_2 45 ∧ (w_J13_bitCount_95d88 (s_p0_through (x_2).toNatClampNeg) (fun (r_20 : Int32) => (K_5 (if r_20 < x_1 then r_20 else x_1) (x_2 + (1 : Int32))))))))
def w_X5_leastThrough_5 (s_p0_size : Int32) (s_p0_through : Nat → Int64) (Q : Int32 → Prop) : Nat → (Int32) → (Int32) → Prop
  | 0 => fun _ _ => False
  | n_ + 1 => w_X5_leastThrough_5s s_p0_size s_p0_through Q (w_X5_leastThrough_5 s_p0_size s_p0_through Q n_)
def w_X5_leastThrough (s_p0_size : Int32) (s_p0_through : Nat → Int64) (Q : Int32 → Prop) : Prop := (∃ n_, w_X5_leastThrough_5 s_p0_size s_p0_through Q n_ (45 : Int32) (0 : Int32))
-- X5_leastThrough
theorem iX5_leastThrough_X5 : ∀ w ∈ wsX50, w ∈ wsX5_leastThrough := by decide +kernel
set_option maxHeartbeats 4000000 in
set_option maxRecDepth 100000 in
theorem k_X5_leastThrough_5 {E : vE} {T : Nat → ClassId} {o_p0 : Nat} {a_p0 : Nat → Nat} {s_p0_there : Int32} {s_p0_kind : Int32} {s_p0_tag : Int32} {s_p0_size : Int32} {s_p0_lineCount : Int32} {s_p0_through : Nat → Int64} {Q : Int32 → Prop} (X : vX E cX5_leastThrough 3 RX5 wsX5_leastThrough (vT T) (vr 1 21)) (r : r_X5_leastThrough E T o_p0 a_p0 s_p0_there s_p0_kind s_p0_tag s_p0_size s_p0_lineCount s_p0_through Q) : ∀ (n_ : Nat) (x_1 : Int32) (x_2 : Int32), w_X5_leastThrough_5 s_p0_size s_p0_through Q n_ x_1 x_2 → V E 0 0 5 [(0, .ref o_p0), (1, .int x_1), (2, .int x_2)] [] (cl_X5_leastThrough T o_p0 a_p0 s_p0_there s_p0_kind s_p0_tag s_p0_size s_p0_lineCount s_p0_through) := by
  intro n_
  induction n_ with
  | zero => intro x_1 x_2 h; exact h.elim
  | succ n_ hK_5 =>
    intro x_1 x_2 h
    replace h : w_X5_leastThrough_5s s_p0_size s_p0_through Q (w_X5_leastThrough_5 s_p0_size s_p0_through Q n_) x_1 x_2 := h
    unfold w_X5_leastThrough_5s at h
    refine v_iload_n X 2 dX5_leastThrough_5 rfl rfl ?_
    refine v_aload_n X 0 dX5_leastThrough_6 rfl rfl ?_
    refine v_get X 0 6 (F := TX5) (N := 8) iX5_leastThrough_X5 rfl rfl (by decide) (List.mem_of_getElem? (i := 1) rfl) rfl rfl dX5_leastThrough_7 ?_
    refine v_icmp_ge X (tgt := 33) dX5_leastThrough_10 (by decide) (fun c_10 => ?_) (fun c_10 => ?_)
    · replace h := h.1 c_10
      refine v_iload_n X 1 dX5_leastThrough_33 rfl rfl ?_
      exact r _ _ _ () _ dX5_leastThrough_34 h rfl
    · replace h := h.2 c_10
      refine v_iload_n X 1 dX5_leastThrough_13 rfl rfl ?_
      refine v_aload_n X 0 dX5_leastThrough_14 rfl rfl ?_
      refine v_get X 0 1 (F := TX5) (N := 8) iX5_leastThrough_X5 rfl rfl (by decide) (List.mem_of_getElem? (i := 2) rfl) rfl rfl dX5_leastThrough_15 ?_
      refine v_iload_n X 2 dX5_leastThrough_18 rfl rfl ?_
      refine v_lald X 1 1 rfl rfl h.1 dX5_leastThrough_19 ?_
      replace h := h.2
      refine v_callSi0 X (As := [.long (s_p0_through (x_2).toNatClampNeg)]) (rest := [.int x_1]) 1 (c_J13_bitCount_95d88 (l := vl E) (D := vD E) (T := T) (x_0 := (s_p0_through (x_2).toNatClampNeg)) h) gX5_leastThrough_J13_bitCount_95d88 rfl rfl (by decide +kernel) ⟨Nat.zero_le _, Nat.zero_le _⟩ ⟨rfl, rfl, by decide, by decide⟩ (Nat.le_of_ble_eq_true rfl) rfl dX5_leastThrough_20 (fun r_20 h => ?_)
      refine v_mmin X (List.mem_of_getElem? (i := 3) rfl) (List.mem_of_getElem? (i := 4) rfl) (List.mem_of_getElem? (i := 5) rfl) (List.mem_of_getElem? (i := 6) rfl) (by decide) (Nat.le_of_ble_eq_true rfl) ⟨Nat.zero_le _, Nat.zero_le _⟩ dX5_leastThrough_23 ?_
      refine v_istore_n X (lv' := [(1, .int (if r_20 < x_1 then r_20 else x_1)), (0, .ref o_p0), (2, .int x_2)]) dX5_leastThrough_26 rfl (by decide) rfl ?_
      refine v_iinc X (v := (x_2 + (1 : Int32))) (lv' := [(2, .int (x_2 + (1 : Int32))), (1, .int (if r_20 < x_1 then r_20 else x_1)), (0, .ref o_p0)]) 2 dX5_leastThrough_27 rfl rfl (by decide) rfl ?_
      refine v_goto X (tgt := 5) dX5_leastThrough_30 (by decide) ?_
      refine v_lv (lv' := [(0, .ref o_p0), (1, .int (if r_20 < x_1 then r_20 else x_1)), (2, .int (x_2 + (1 : Int32)))]) [2, 1, 0] rfl ?_
      exact hK_5 _ _ h
set_option maxHeartbeats 4000000 in
set_option maxRecDepth 100000 in
theorem c_X5_leastThrough {l : Launch} {D : va_G} {T : Nat → ClassId} {o_p0 : Nat} {a_p0 : Nat → Nat} {s_p0_there : Int32} {s_p0_kind : Int32} {s_p0_tag : Int32} {s_p0_size : Int32} {s_p0_lineCount : Int32} {s_p0_through : Nat → Int64} {Q : Int32 → Prop} (h : w_X5_leastThrough s_p0_size s_p0_through Q) : vCi l D (vT T) yX5_leastThrough wsX5_leastThrough (vr 1 21) [.ref o_p0] (cl_X5_leastThrough T o_p0 a_p0 s_p0_there s_p0_kind s_p0_tag s_p0_size s_p0_lineCount s_p0_through) (fun v (u : Unit) => Q v) (fun (u : Unit) => (cl_X5_leastThrough T o_p0 a_p0 s_p0_there s_p0_kind s_p0_tag s_p0_size s_p0_lineCount s_p0_through)) := by
  refine vC_i (cc := cX5_leastThrough) (nL := 3) (by decide +kernel) rfl ⟨rfl, rfl⟩ (Nat.le_of_ble_eq_true rfl) rfl ?_
  intro E el eD X r
  unfold w_X5_leastThrough at h
  refine v_bipush X dX5_leastThrough_0 (v := (45 : Int32)) (by decide) ?_
  refine v_istore_n X (lv' := [(1, .int (45 : Int32)), (0, .ref o_p0)]) dX5_leastThrough_2 rfl (by decide) rfl ?_
  refine v_iconst X dX5_leastThrough_3 (v := (0 : Int32)) (by decide) ?_
  refine v_istore_n X (lv' := [(2, .int (0 : Int32)), (1, .int (45 : Int32)), (0, .ref o_p0)]) dX5_leastThrough_4 rfl (by decide) rfl ?_
  refine v_lv (lv' := [(0, .ref o_p0), (1, .int (45 : Int32)), (2, .int (0 : Int32))]) [2, 1, 0] rfl ?_
  obtain ⟨n_, h⟩ := h
  exact k_X5_leastThrough_5 X r n_ _ _ h
-- X5_mostOnLine
abbrev cl_X5_mostOnLine (T : Nat → ClassId) (o_p0 : Nat) (a_p0 : Nat → Nat) (s_p0_there : Int32) (s_p0_kind : Int32) (s_p0_tag : Int32) (s_p0_size : Int32) (s_p0_lineCount : Int32) (s_p0_sets : Nat → Int64) : va_W := [vO o_p0 2 [.ref (a_p0 0), .ref (a_p0 1), .ref (a_p0 2), .int s_p0_there, .int s_p0_kind, .int s_p0_tag, .int s_p0_size, .int s_p0_lineCount], vJ T (a_p0 0) 45 s_p0_sets]
abbrev r_X5_mostOnLine (E : vE) (T : Nat → ClassId) (o_p0 : Nat) (a_p0 : Nat → Nat) (s_p0_there : Int32) (s_p0_kind : Int32) (s_p0_tag : Int32) (s_p0_size : Int32) (s_p0_lineCount : Int32) (s_p0_sets : Nat → Int64) (Q : Int32 → Prop) : Prop := vRi E cX5_mostOnLine (fun v (u : Unit) => Q v) (fun (u : Unit) => (cl_X5_mostOnLine T o_p0 a_p0 s_p0_there s_p0_kind s_p0_tag s_p0_size s_p0_lineCount s_p0_sets))
def w_X5_mostOnLine_5s (x_1 : Int64) (s_p0_lineCount : Int32) (s_p0_sets : Nat → Int64) (Q : Int32 → Prop) (K_5 : (Int32) → (Int32) → Prop) (x_3 : Int32) (x_4 : Int32) : Prop := ((s_p0_lineCount ≤ x_4 → (Q x_3)) ∧ (¬ s_p0_lineCount ≤ x_4 → (vp_in x_4 45 ∧ (w_J13_bitCount_95d88 ((s_p0_sets (x_4).toNatClampNeg) &&& x_1) (fun (r_24 : Int32) => (K_5 (if x_3 < r_24 then r_24 else x_3) (x_4 + (1 : Int32))))))))
def w_X5_mostOnLine_5 (x_1 : Int64) (s_p0_lineCount : Int32) (s_p0_sets : Nat → Int64) (Q : Int32 → Prop) : Nat → (Int32) → (Int32) → Prop
  | 0 => fun _ _ => False
  | n_ + 1 => w_X5_mostOnLine_5s x_1 s_p0_lineCount s_p0_sets Q (w_X5_mostOnLine_5 x_1 s_p0_lineCount s_p0_sets Q n_)
def w_X5_mostOnLine (x_1 : Int64) (s_p0_lineCount : Int32) (s_p0_sets : Nat → Int64) (Q : Int32 → Prop) : Prop := (∃ n_, w_X5_mostOnLine_5 x_1 s_p0_lineCount s_p0_sets Q n_ (0 : Int32) (0 : Int32))
-- X5_mostOnLine
theorem iX5_mostOnLine_X5 : ∀ w ∈ wsX50, w ∈ wsX5_mostOnLine := by decide +kernel
set_option maxHeartbeats 4000000 in
set_option maxRecDepth 100000 in
theorem k_X5_mostOnLine_5 {E : vE} {T : Nat → ClassId} {o_p0 : Nat} {a_p0 : Nat → Nat} {s_p0_there : Int32} {s_p0_kind : Int32} {s_p0_tag : Int32} {s_p0_size : Int32} {s_p0_lineCount : Int32} {s_p0_sets : Nat → Int64} {x_1 : Int64} {Q : Int32 → Prop} (X : vX E cX5_mostOnLine 5 RX5 wsX5_mostOnLine (vT T) (vr 1 21)) (r : r_X5_mostOnLine E T o_p0 a_p0 s_p0_there s_p0_kind s_p0_tag s_p0_size s_p0_lineCount s_p0_sets Q) : ∀ (n_ : Nat) (x_3 : Int32) (x_4 : Int32), w_X5_mostOnLine_5 x_1 s_p0_lineCount s_p0_sets Q n_ x_3 x_4 → V E 0 0 5 [(0, .ref o_p0), (1, .long x_1), (3, .int x_3), (4, .int x_4)] [] (cl_X5_mostOnLine T o_p0 a_p0 s_p0_there s_p0_kind s_p0_tag s_p0_size s_p0_lineCount s_p0_sets) := by
  intro n_
  induction n_ with
  | zero => intro x_3 x_4 h; exact h.elim
  | succ n_ hK_5 =>
    intro x_3 x_4 h
    replace h : w_X5_mostOnLine_5s x_1 s_p0_lineCount s_p0_sets Q (w_X5_mostOnLine_5 x_1 s_p0_lineCount s_p0_sets Q n_) x_3 x_4 := h
    unfold w_X5_mostOnLine_5s at h
    refine v_iload X 3 dX5_mostOnLine_5 rfl ?_
    refine v_aload_n X 0 dX5_mostOnLine_7 rfl rfl ?_
    refine v_get X 0 7 (F := TX5) (N := 8) iX5_mostOnLine_X5 rfl rfl (by decide) (List.mem_of_getElem? (i := 1) rfl) rfl rfl dX5_mostOnLine_8 ?_
    refine v_icmp_ge X (tgt := 37) dX5_mostOnLine_11 (by decide) (fun c_11 => ?_) (fun c_11 => ?_)
    · replace h := h.1 c_11
      refine v_iload_n X 2 dX5_mostOnLine_37 rfl rfl ?_
      exact r _ _ _ () _ dX5_mostOnLine_38 h rfl
    · replace h := h.2 c_11
      refine v_iload_n X 2 dX5_mostOnLine_14 rfl rfl ?_
      refine v_aload_n X 0 dX5_mostOnLine_15 rfl rfl ?_
      refine v_get X 0 0 (F := TX5) (N := 8) iX5_mostOnLine_X5 rfl rfl (by decide) (List.mem_of_getElem? (i := 2) rfl) rfl rfl dX5_mostOnLine_16 ?_
      refine v_iload X 3 dX5_mostOnLine_19 rfl ?_
      refine v_lald X 1 1 rfl rfl h.1 dX5_mostOnLine_21 ?_
      replace h := h.2
      refine v_lload_n X 1 dX5_mostOnLine_22 rfl rfl ?_
      refine v_land X dX5_mostOnLine_23 ?_
      refine v_callSi0 X (As := [.long ((s_p0_sets (x_4).toNatClampNeg) &&& x_1)]) (rest := [.int x_3]) 1 (c_J13_bitCount_95d88 (l := vl E) (D := vD E) (T := T) (x_0 := ((s_p0_sets (x_4).toNatClampNeg) &&& x_1)) h) gX5_mostOnLine_J13_bitCount_95d88 rfl rfl (by decide +kernel) ⟨Nat.zero_le _, Nat.zero_le _⟩ ⟨rfl, rfl, by decide, by decide⟩ (Nat.le_of_ble_eq_true rfl) rfl dX5_mostOnLine_24 (fun r_24 h => ?_)
      refine v_mmax X (List.mem_of_getElem? (i := 3) rfl) (List.mem_of_getElem? (i := 4) rfl) (List.mem_of_getElem? (i := 5) rfl) (List.mem_of_getElem? (i := 6) rfl) (by decide) (Nat.le_of_ble_eq_true rfl) ⟨Nat.zero_le _, Nat.zero_le _⟩ dX5_mostOnLine_27 ?_
      refine v_istore_n X (lv' := [(3, .int (if x_3 < r_24 then r_24 else x_3)), (0, .ref o_p0), (1, .long x_1), (4, .int x_4)]) dX5_mostOnLine_30 rfl (by decide) rfl ?_
      refine v_iinc X (v := (x_4 + (1 : Int32))) (lv' := [(4, .int (x_4 + (1 : Int32))), (3, .int (if x_3 < r_24 then r_24 else x_3)), (0, .ref o_p0), (1, .long x_1)]) 3 dX5_mostOnLine_31 rfl rfl (by decide) rfl ?_
      refine v_goto X (tgt := 5) dX5_mostOnLine_34 (by decide) ?_
      refine v_lv (lv' := [(0, .ref o_p0), (1, .long x_1), (3, .int (if x_3 < r_24 then r_24 else x_3)), (4, .int (x_4 + (1 : Int32)))]) [2, 3, 1, 0] rfl ?_
      exact hK_5 _ _ h
set_option maxHeartbeats 4000000 in
set_option maxRecDepth 100000 in
theorem c_X5_mostOnLine {l : Launch} {D : va_G} {T : Nat → ClassId} {o_p0 : Nat} {a_p0 : Nat → Nat} {s_p0_there : Int32} {s_p0_kind : Int32} {s_p0_tag : Int32} {s_p0_size : Int32} {s_p0_lineCount : Int32} {s_p0_sets : Nat → Int64} {x_1 : Int64} {Q : Int32 → Prop} (h : w_X5_mostOnLine x_1 s_p0_lineCount s_p0_sets Q) : vCi l D (vT T) yX5_mostOnLine wsX5_mostOnLine (vr 1 21) [.ref o_p0, .long x_1] (cl_X5_mostOnLine T o_p0 a_p0 s_p0_there s_p0_kind s_p0_tag s_p0_size s_p0_lineCount s_p0_sets) (fun v (u : Unit) => Q v) (fun (u : Unit) => (cl_X5_mostOnLine T o_p0 a_p0 s_p0_there s_p0_kind s_p0_tag s_p0_size s_p0_lineCount s_p0_sets)) := by
  refine vC_i (cc := cX5_mostOnLine) (nL := 5) (by decide +kernel) rfl ⟨rfl, rfl⟩ (Nat.le_of_ble_eq_true rfl) rfl ?_
  intro E el eD X r
  unfold w_X5_mostOnLine at h
  refine v_iconst X dX5_mostOnLine_0 (v := (0 : Int32)) (by decide) ?_
  refine v_istore_n X (lv' := [(3, .int (0 : Int32)), (0, .ref o_p0), (1, .long x_1)]) dX5_mostOnLine_1 rfl (by decide) rfl ?_
  refine v_iconst X dX5_mostOnLine_2 (v := (0 : Int32)) (by decide) ?_
  refine v_istore X (lv' := [(4, .int (0 : Int32)), (3, .int (0 : Int32)), (0, .ref o_p0), (1, .long x_1)]) dX5_mostOnLine_3 (by decide) rfl ?_
  refine v_lv (lv' := [(0, .ref o_p0), (1, .long x_1), (3, .int (0 : Int32)), (4, .int (0 : Int32))]) [2, 3, 1, 0] rfl ?_
  obtain ⟨n_, h⟩ := h
  exact k_X5_mostOnLine_5 X r n_ _ _ h
-- X5_leastOnLine
abbrev cl_X5_leastOnLine (T : Nat → ClassId) (o_p0 : Nat) (a_p0 : Nat → Nat) (s_p0_there : Int32) (s_p0_kind : Int32) (s_p0_tag : Int32) (s_p0_size : Int32) (s_p0_lineCount : Int32) (s_p0_sets : Nat → Int64) : va_W := [vO o_p0 2 [.ref (a_p0 0), .ref (a_p0 1), .ref (a_p0 2), .int s_p0_there, .int s_p0_kind, .int s_p0_tag, .int s_p0_size, .int s_p0_lineCount], vJ T (a_p0 0) 45 s_p0_sets]
abbrev r_X5_leastOnLine (E : vE) (T : Nat → ClassId) (o_p0 : Nat) (a_p0 : Nat → Nat) (s_p0_there : Int32) (s_p0_kind : Int32) (s_p0_tag : Int32) (s_p0_size : Int32) (s_p0_lineCount : Int32) (s_p0_sets : Nat → Int64) (Q : Int32 → Prop) : Prop := vRi E cX5_leastOnLine (fun v (u : Unit) => Q v) (fun (u : Unit) => (cl_X5_leastOnLine T o_p0 a_p0 s_p0_there s_p0_kind s_p0_tag s_p0_size s_p0_lineCount s_p0_sets))
def w_X5_leastOnLine_6s (x_1 : Int64) (s_p0_lineCount : Int32) (s_p0_sets : Nat → Int64) (Q : Int32 → Prop) (K_6 : (Int32) → (Int32) → Prop) (x_3 : Int32) (x_4 : Int32) : Prop := ((s_p0_lineCount ≤ x_4 → (Q x_3)) ∧ (¬ s_p0_lineCount ≤ x_4 → (vp_in x_4 45 ∧ (w_J13_bitCount_95d88 ((s_p0_sets (x_4).toNatClampNeg) &&& x_1) (fun (r_25 : Int32) => (K_6 (if r_25 < x_3 then r_25 else x_3) (x_4 + (1 : Int32))))))))
def w_X5_leastOnLine_6 (x_1 : Int64) (s_p0_lineCount : Int32) (s_p0_sets : Nat → Int64) (Q : Int32 → Prop) : Nat → (Int32) → (Int32) → Prop
  | 0 => fun _ _ => False
  | n_ + 1 => w_X5_leastOnLine_6s x_1 s_p0_lineCount s_p0_sets Q (w_X5_leastOnLine_6 x_1 s_p0_lineCount s_p0_sets Q n_)
def w_X5_leastOnLine (x_1 : Int64) (s_p0_lineCount : Int32) (s_p0_sets : Nat → Int64) (Q : Int32 → Prop) : Prop := (∃ n_, w_X5_leastOnLine_6 x_1 s_p0_lineCount s_p0_sets Q n_ (45 : Int32) (0 : Int32))
-- X5_leastOnLine
theorem iX5_leastOnLine_X5 : ∀ w ∈ wsX50, w ∈ wsX5_leastOnLine := by decide +kernel
set_option maxHeartbeats 4000000 in
set_option maxRecDepth 100000 in
theorem k_X5_leastOnLine_6 {E : vE} {T : Nat → ClassId} {o_p0 : Nat} {a_p0 : Nat → Nat} {s_p0_there : Int32} {s_p0_kind : Int32} {s_p0_tag : Int32} {s_p0_size : Int32} {s_p0_lineCount : Int32} {s_p0_sets : Nat → Int64} {x_1 : Int64} {Q : Int32 → Prop} (X : vX E cX5_leastOnLine 5 RX5 wsX5_leastOnLine (vT T) (vr 1 21)) (r : r_X5_leastOnLine E T o_p0 a_p0 s_p0_there s_p0_kind s_p0_tag s_p0_size s_p0_lineCount s_p0_sets Q) : ∀ (n_ : Nat) (x_3 : Int32) (x_4 : Int32), w_X5_leastOnLine_6 x_1 s_p0_lineCount s_p0_sets Q n_ x_3 x_4 → V E 0 0 6 [(0, .ref o_p0), (1, .long x_1), (3, .int x_3), (4, .int x_4)] [] (cl_X5_leastOnLine T o_p0 a_p0 s_p0_there s_p0_kind s_p0_tag s_p0_size s_p0_lineCount s_p0_sets) := by
  intro n_
  induction n_ with
  | zero => intro x_3 x_4 h; exact h.elim
  | succ n_ hK_6 =>
    intro x_3 x_4 h
    replace h : w_X5_leastOnLine_6s x_1 s_p0_lineCount s_p0_sets Q (w_X5_leastOnLine_6 x_1 s_p0_lineCount s_p0_sets Q n_) x_3 x_4 := h
    unfold w_X5_leastOnLine_6s at h
    refine v_iload X 3 dX5_leastOnLine_6 rfl ?_
    refine v_aload_n X 0 dX5_leastOnLine_8 rfl rfl ?_
    refine v_get X 0 7 (F := TX5) (N := 8) iX5_leastOnLine_X5 rfl rfl (by decide) (List.mem_of_getElem? (i := 1) rfl) rfl rfl dX5_leastOnLine_9 ?_
    refine v_icmp_ge X (tgt := 38) dX5_leastOnLine_12 (by decide) (fun c_12 => ?_) (fun c_12 => ?_)
    · replace h := h.1 c_12
      refine v_iload_n X 2 dX5_leastOnLine_38 rfl rfl ?_
      exact r _ _ _ () _ dX5_leastOnLine_39 h rfl
    · replace h := h.2 c_12
      refine v_iload_n X 2 dX5_leastOnLine_15 rfl rfl ?_
      refine v_aload_n X 0 dX5_leastOnLine_16 rfl rfl ?_
      refine v_get X 0 0 (F := TX5) (N := 8) iX5_leastOnLine_X5 rfl rfl (by decide) (List.mem_of_getElem? (i := 2) rfl) rfl rfl dX5_leastOnLine_17 ?_
      refine v_iload X 3 dX5_leastOnLine_20 rfl ?_
      refine v_lald X 1 1 rfl rfl h.1 dX5_leastOnLine_22 ?_
      replace h := h.2
      refine v_lload_n X 1 dX5_leastOnLine_23 rfl rfl ?_
      refine v_land X dX5_leastOnLine_24 ?_
      refine v_callSi0 X (As := [.long ((s_p0_sets (x_4).toNatClampNeg) &&& x_1)]) (rest := [.int x_3]) 1 (c_J13_bitCount_95d88 (l := vl E) (D := vD E) (T := T) (x_0 := ((s_p0_sets (x_4).toNatClampNeg) &&& x_1)) h) gX5_leastOnLine_J13_bitCount_95d88 rfl rfl (by decide +kernel) ⟨Nat.zero_le _, Nat.zero_le _⟩ ⟨rfl, rfl, by decide, by decide⟩ (Nat.le_of_ble_eq_true rfl) rfl dX5_leastOnLine_25 (fun r_25 h => ?_)
      refine v_mmin X (List.mem_of_getElem? (i := 3) rfl) (List.mem_of_getElem? (i := 4) rfl) (List.mem_of_getElem? (i := 5) rfl) (List.mem_of_getElem? (i := 6) rfl) (by decide) (Nat.le_of_ble_eq_true rfl) ⟨Nat.zero_le _, Nat.zero_le _⟩ dX5_leastOnLine_28 ?_
      refine v_istore_n X (lv' := [(3, .int (if r_25 < x_3 then r_25 else x_3)), (0, .ref o_p0), (1, .long x_1), (4, .int x_4)]) dX5_leastOnLine_31 rfl (by decide) rfl ?_
      refine v_iinc X (v := (x_4 + (1 : Int32))) (lv' := [(4, .int (x_4 + (1 : Int32))), (3, .int (if r_25 < x_3 then r_25 else x_3)), (0, .ref o_p0), (1, .long x_1)]) 3 dX5_leastOnLine_32 rfl rfl (by decide) rfl ?_
      refine v_goto X (tgt := 6) dX5_leastOnLine_35 (by decide) ?_
      refine v_lv (lv' := [(0, .ref o_p0), (1, .long x_1), (3, .int (if r_25 < x_3 then r_25 else x_3)), (4, .int (x_4 + (1 : Int32)))]) [2, 3, 1, 0] rfl ?_
      exact hK_6 _ _ h
set_option maxHeartbeats 4000000 in
set_option maxRecDepth 100000 in
theorem c_X5_leastOnLine {l : Launch} {D : va_G} {T : Nat → ClassId} {o_p0 : Nat} {a_p0 : Nat → Nat} {s_p0_there : Int32} {s_p0_kind : Int32} {s_p0_tag : Int32} {s_p0_size : Int32} {s_p0_lineCount : Int32} {s_p0_sets : Nat → Int64} {x_1 : Int64} {Q : Int32 → Prop} (h : w_X5_leastOnLine x_1 s_p0_lineCount s_p0_sets Q) : vCi l D (vT T) yX5_leastOnLine wsX5_leastOnLine (vr 1 21) [.ref o_p0, .long x_1] (cl_X5_leastOnLine T o_p0 a_p0 s_p0_there s_p0_kind s_p0_tag s_p0_size s_p0_lineCount s_p0_sets) (fun v (u : Unit) => Q v) (fun (u : Unit) => (cl_X5_leastOnLine T o_p0 a_p0 s_p0_there s_p0_kind s_p0_tag s_p0_size s_p0_lineCount s_p0_sets)) := by
  refine vC_i (cc := cX5_leastOnLine) (nL := 5) (by decide +kernel) rfl ⟨rfl, rfl⟩ (Nat.le_of_ble_eq_true rfl) rfl ?_
  intro E el eD X r
  unfold w_X5_leastOnLine at h
  refine v_bipush X dX5_leastOnLine_0 (v := (45 : Int32)) (by decide) ?_
  refine v_istore_n X (lv' := [(3, .int (45 : Int32)), (0, .ref o_p0), (1, .long x_1)]) dX5_leastOnLine_2 rfl (by decide) rfl ?_
  refine v_iconst X dX5_leastOnLine_3 (v := (0 : Int32)) (by decide) ?_
  refine v_istore X (lv' := [(4, .int (0 : Int32)), (3, .int (45 : Int32)), (0, .ref o_p0), (1, .long x_1)]) dX5_leastOnLine_4 (by decide) rfl ?_
  refine v_lv (lv' := [(0, .ref o_p0), (1, .long x_1), (3, .int (45 : Int32)), (4, .int (0 : Int32))]) [2, 3, 1, 0] rfl ?_
  obtain ⟨n_, h⟩ := h
  exact k_X5_leastOnLine_6 X r n_ _ _ h
-- X5_stepsBetween
abbrev cl_X5_stepsBetween (T : Nat → ClassId) (o_p0 : Nat) (a_p0 : Nat → Nat) (s_p0_there : Int32) (s_p0_kind : Int32) (s_p0_tag : Int32) (s_p0_size : Int32) (s_p0_lineCount : Int32) (s_p0_near : Nat → Int64) : va_W := [vO o_p0 2 [.ref (a_p0 0), .ref (a_p0 1), .ref (a_p0 2), .int s_p0_there, .int s_p0_kind, .int s_p0_tag, .int s_p0_size, .int s_p0_lineCount], vJ T (a_p0 2) 45 s_p0_near]
abbrev r_X5_stepsBetween (E : vE) (T : Nat → ClassId) (o_p0 : Nat) (a_p0 : Nat → Nat) (s_p0_there : Int32) (s_p0_kind : Int32) (s_p0_tag : Int32) (s_p0_size : Int32) (s_p0_lineCount : Int32) (s_p0_near : Nat → Int64) (Q : Int32 → Prop) : Prop := vRi E cX5_stepsBetween (fun v (u : Unit) => Q v) (fun (u : Unit) => (cl_X5_stepsBetween T o_p0 a_p0 s_p0_there s_p0_kind s_p0_tag s_p0_size s_p0_lineCount s_p0_near))
def w_X5_stepsBetween_63 (x_2 : Int32) (x_3 : Int64) (x_5 : Int32) (x_6 : Int64) (x_8 : Int32) (s_p0_size : Int32) (s_p0_near : Nat → Int64) (K_7 : (Int64) → (Int32) → Prop) (K_33 : (Int64) → (Int32) → Prop) (Q : Int32 → Prop) : Prop := (K_33 x_6 (x_8 + (1 : Int32)))
def w_X5_stepsBetween_33s (x_2 : Int32) (x_3 : Int64) (x_5 : Int32) (s_p0_size : Int32) (s_p0_near : Nat → Int64) (K_7 : (Int64) → (Int32) → Prop) (Q : Int32 → Prop) (K_33 : (Int64) → (Int32) → Prop) (x_6 : Int64) (x_8 : Int32) : Prop := ((s_p0_size ≤ x_8 → (K_7 x_6 (x_5 + (1 : Int32)))) ∧ (¬ s_p0_size ≤ x_8 → (w_X6_has x_3 x_8 (fun (r_45 : Int32) => ((r_45 = 0 → (w_X5_stepsBetween_63 x_2 x_3 x_5 x_6 x_8 s_p0_size s_p0_near K_7 K_33 Q)) ∧ (¬ r_45 = 0 → (vp_in x_8 45 ∧ (w_X5_stepsBetween_63 x_2 x_3 x_5 (x_6 ||| (s_p0_near (x_8).toNatClampNeg)) x_8 s_p0_size s_p0_near K_7 K_33 Q))))))))
def w_X5_stepsBetween_33 (x_2 : Int32) (x_3 : Int64) (x_5 : Int32) (s_p0_size : Int32) (s_p0_near : Nat → Int64) (K_7 : (Int64) → (Int32) → Prop) (Q : Int32 → Prop) : Nat → (Int64) → (Int32) → Prop
  | 0 => fun _ _ => False
  | n_ + 1 => w_X5_stepsBetween_33s x_2 x_3 x_5 s_p0_size s_p0_near K_7 Q (w_X5_stepsBetween_33 x_2 x_3 x_5 s_p0_size s_p0_near K_7 Q n_)
def w_X5_stepsBetween_7s (x_2 : Int32) (s_p0_size : Int32) (s_p0_near : Nat → Int64) (Q : Int32 → Prop) (K_7 : (Int64) → (Int32) → Prop) (x_3 : Int64) (x_5 : Int32) : Prop := ((s_p0_size ≤ x_5 → (Q (-9 : Int32))) ∧ (¬ s_p0_size ≤ x_5 → (w_X6_has x_3 x_2 (fun (r_18 : Int32) => ((r_18 = 0 → (∃ n_, w_X5_stepsBetween_33 x_2 x_3 x_5 s_p0_size s_p0_near K_7 Q n_ x_3 (0 : Int32))) ∧ (¬ r_18 = 0 → (Q x_5)))))))
def w_X5_stepsBetween_7 (x_2 : Int32) (s_p0_size : Int32) (s_p0_near : Nat → Int64) (Q : Int32 → Prop) : Nat → (Int64) → (Int32) → Prop
  | 0 => fun _ _ => False
  | n_ + 1 => w_X5_stepsBetween_7s x_2 s_p0_size s_p0_near Q (w_X5_stepsBetween_7 x_2 s_p0_size s_p0_near Q n_)
def w_X5_stepsBetween (x_1 : Int32) (x_2 : Int32) (s_p0_size : Int32) (s_p0_near : Nat → Int64) (Q : Int32 → Prop) : Prop := (∃ n_, w_X5_stepsBetween_7 x_2 s_p0_size s_p0_near Q n_ (vshl (1 : Int64) x_1) (0 : Int32))
-- X5_stepsBetween
theorem iX5_stepsBetween_X5 : ∀ w ∈ wsX50, w ∈ wsX5_stepsBetween := by decide +kernel
set_option maxHeartbeats 4000000 in
set_option maxRecDepth 100000 in
theorem k_X5_stepsBetween_63 {E : vE} {T : Nat → ClassId} {o_p0 : Nat} {a_p0 : Nat → Nat} {s_p0_there : Int32} {s_p0_kind : Int32} {s_p0_tag : Int32} {s_p0_size : Int32} {s_p0_lineCount : Int32} {s_p0_near : Nat → Int64} {x_2 : Int32} {x_3 : Int64} {x_5 : Int32} {x_6 : Int64} {x_8 : Int32} {K_7 : (Int64) → (Int32) → Prop} {K_33 : (Int64) → (Int32) → Prop} {Q : Int32 → Prop} (X : vX E cX5_stepsBetween 9 RX5 wsX5_stepsBetween (vT T) (vr 1 22)) (r : r_X5_stepsBetween E T o_p0 a_p0 s_p0_there s_p0_kind s_p0_tag s_p0_size s_p0_lineCount s_p0_near Q) (hK_7 : ∀ (x_3' : Int64) (x_5' : Int32), K_7 x_3' x_5' → V E 0 0 7 [(0, .ref o_p0), (2, .int x_2), (3, .long x_3'), (5, .int x_5')] [] (cl_X5_stepsBetween T o_p0 a_p0 s_p0_there s_p0_kind s_p0_tag s_p0_size s_p0_lineCount s_p0_near)) (hK_33 : ∀ (x_6' : Int64) (x_8' : Int32), K_33 x_6' x_8' → V E 0 0 33 [(0, .ref o_p0), (2, .int x_2), (3, .long x_3), (5, .int x_5), (6, .long x_6'), (8, .int x_8')] [] (cl_X5_stepsBetween T o_p0 a_p0 s_p0_there s_p0_kind s_p0_tag s_p0_size s_p0_lineCount s_p0_near)) (h : w_X5_stepsBetween_63 x_2 x_3 x_5 x_6 x_8 s_p0_size s_p0_near K_7 K_33 Q) : V E 0 0 63 [(0, .ref o_p0), (2, .int x_2), (3, .long x_3), (5, .int x_5), (6, .long x_6), (8, .int x_8)] [] (cl_X5_stepsBetween T o_p0 a_p0 s_p0_there s_p0_kind s_p0_tag s_p0_size s_p0_lineCount s_p0_near) := by
  unfold w_X5_stepsBetween_63 at h
  refine v_iinc X (v := (x_8 + (1 : Int32))) (lv' := [(8, .int (x_8 + (1 : Int32))), (0, .ref o_p0), (2, .int x_2), (3, .long x_3), (5, .int x_5), (6, .long x_6)]) 5 dX5_stepsBetween_63 rfl rfl (by decide) rfl ?_
  refine v_goto X (tgt := 33) dX5_stepsBetween_66 (by decide) ?_
  refine v_lv (lv' := [(0, .ref o_p0), (2, .int x_2), (3, .long x_3), (5, .int x_5), (6, .long x_6), (8, .int (x_8 + (1 : Int32)))]) [1, 2, 3, 4, 5, 0] rfl ?_
  exact hK_33 _ _ h
set_option maxHeartbeats 4000000 in
set_option maxRecDepth 100000 in
theorem k_X5_stepsBetween_33 {E : vE} {T : Nat → ClassId} {o_p0 : Nat} {a_p0 : Nat → Nat} {s_p0_there : Int32} {s_p0_kind : Int32} {s_p0_tag : Int32} {s_p0_size : Int32} {s_p0_lineCount : Int32} {s_p0_near : Nat → Int64} {x_2 : Int32} {x_3 : Int64} {x_5 : Int32} {K_7 : (Int64) → (Int32) → Prop} {Q : Int32 → Prop} (X : vX E cX5_stepsBetween 9 RX5 wsX5_stepsBetween (vT T) (vr 1 22)) (r : r_X5_stepsBetween E T o_p0 a_p0 s_p0_there s_p0_kind s_p0_tag s_p0_size s_p0_lineCount s_p0_near Q) (hK_7 : ∀ (x_3' : Int64) (x_5' : Int32), K_7 x_3' x_5' → V E 0 0 7 [(0, .ref o_p0), (2, .int x_2), (3, .long x_3'), (5, .int x_5')] [] (cl_X5_stepsBetween T o_p0 a_p0 s_p0_there s_p0_kind s_p0_tag s_p0_size s_p0_lineCount s_p0_near)) : ∀ (n_ : Nat) (x_6 : Int64) (x_8 : Int32), w_X5_stepsBetween_33 x_2 x_3 x_5 s_p0_size s_p0_near K_7 Q n_ x_6 x_8 → V E 0 0 33 [(0, .ref o_p0), (2, .int x_2), (3, .long x_3), (5, .int x_5), (6, .long x_6), (8, .int x_8)] [] (cl_X5_stepsBetween T o_p0 a_p0 s_p0_there s_p0_kind s_p0_tag s_p0_size s_p0_lineCount s_p0_near) := by
  intro n_
  induction n_ with
  | zero => intro x_6 x_8 h; exact h.elim
  | succ n_ hK_33 =>
    intro x_6 x_8 h
    replace h : w_X5_stepsBetween_33s x_2 x_3 x_5 s_p0_size s_p0_near K_7 Q (w_X5_stepsBetween_33 x_2 x_3 x_5 s_p0_size s_p0_near K_7 Q n_) x_6 x_8 := h
    unfold w_X5_stepsBetween_33s at h
    refine v_iload X 5 dX5_stepsBetween_33 rfl ?_
    refine v_aload_n X 0 dX5_stepsBetween_35 rfl rfl ?_
    refine v_get X 0 6 (F := TX5) (N := 8) iX5_stepsBetween_X5 rfl rfl (by decide) (List.mem_of_getElem? (i := 1) rfl) rfl rfl dX5_stepsBetween_36 ?_
    refine v_icmp_ge X (tgt := 69) dX5_stepsBetween_39 (by decide) (fun c_39 => ?_) (fun c_39 => ?_)
    · replace h := h.1 c_39
      refine v_lload X 4 dX5_stepsBetween_69 rfl ?_
      refine v_lstore_n X (lv' := [(3, .long x_6), (0, .ref o_p0), (2, .int x_2), (5, .int x_5), (6, .long x_6), (8, .int x_8)]) dX5_stepsBetween_71 rfl (by decide) rfl ?_
      refine v_iinc X (v := (x_5 + (1 : Int32))) (lv' := [(5, .int (x_5 + (1 : Int32))), (3, .long x_6), (0, .ref o_p0), (2, .int x_2), (6, .long x_6), (8, .int x_8)]) 3 dX5_stepsBetween_72 rfl rfl (by decide) rfl ?_
      refine v_goto X (tgt := 7) dX5_stepsBetween_75 (by decide) ?_
      refine v_lv (lv' := [(0, .ref o_p0), (2, .int x_2), (3, .long x_6), (5, .int (x_5 + (1 : Int32)))]) [2, 3, 1, 0] rfl ?_
      exact hK_7 _ _ h
    · replace h := h.2 c_39
      refine v_lload_n X 2 dX5_stepsBetween_42 rfl rfl ?_
      refine v_iload X 5 dX5_stepsBetween_43 rfl ?_
      refine v_callNi0 X (As := [.long x_3, .int x_8]) (rest := []) 2 (c_X6_has (l := vl E) (D := vD E) (T := T) (x_0 := x_3) (x_2 := x_8) h) gX5_stepsBetween_X6_has_n38 (List.mem_of_getElem? (i := 36) rfl) (List.mem_of_getElem? (i := 4) rfl) (List.mem_of_getElem? (i := 3) rfl) rfl rfl (by decide +kernel) ⟨Nat.zero_le _, Nat.zero_le _⟩ ⟨rfl, rfl, by decide, by decide⟩ (Nat.le_of_ble_eq_true rfl) rfl dX5_stepsBetween_45 (fun r_45 h => ?_)
      refine v_if_eq X (tgt := 63) dX5_stepsBetween_48 (by decide) (fun c_48 => ?_) (fun c_48 => ?_)
      · replace h := h.1 c_48
        exact k_X5_stepsBetween_63 X r hK_7 hK_33 h
      · replace h := h.2 c_48
        refine v_lload X 4 dX5_stepsBetween_51 rfl ?_
        refine v_aload_n X 0 dX5_stepsBetween_53 rfl rfl ?_
        refine v_get X 0 2 (F := TX5) (N := 8) iX5_stepsBetween_X5 rfl rfl (by decide) (List.mem_of_getElem? (i := 2) rfl) rfl rfl dX5_stepsBetween_54 ?_
        refine v_iload X 5 dX5_stepsBetween_57 rfl ?_
        refine v_lald X 1 1 rfl rfl h.1 dX5_stepsBetween_59 ?_
        replace h := h.2
        refine v_lor X dX5_stepsBetween_60 ?_
        refine v_lstore X (lv' := [(6, .long (x_6 ||| (s_p0_near (x_8).toNatClampNeg))), (0, .ref o_p0), (2, .int x_2), (3, .long x_3), (5, .int x_5), (8, .int x_8)]) dX5_stepsBetween_61 (by decide) rfl ?_
        refine v_lv (lv' := [(0, .ref o_p0), (2, .int x_2), (3, .long x_3), (5, .int x_5), (6, .long (x_6 ||| (s_p0_near (x_8).toNatClampNeg))), (8, .int x_8)]) [1, 2, 3, 4, 0, 5] rfl ?_
        exact k_X5_stepsBetween_63 X r hK_7 hK_33 h
set_option maxHeartbeats 4000000 in
set_option maxRecDepth 100000 in
theorem k_X5_stepsBetween_7 {E : vE} {T : Nat → ClassId} {o_p0 : Nat} {a_p0 : Nat → Nat} {s_p0_there : Int32} {s_p0_kind : Int32} {s_p0_tag : Int32} {s_p0_size : Int32} {s_p0_lineCount : Int32} {s_p0_near : Nat → Int64} {x_2 : Int32} {Q : Int32 → Prop} (X : vX E cX5_stepsBetween 9 RX5 wsX5_stepsBetween (vT T) (vr 1 22)) (r : r_X5_stepsBetween E T o_p0 a_p0 s_p0_there s_p0_kind s_p0_tag s_p0_size s_p0_lineCount s_p0_near Q) : ∀ (n_ : Nat) (x_3 : Int64) (x_5 : Int32), w_X5_stepsBetween_7 x_2 s_p0_size s_p0_near Q n_ x_3 x_5 → V E 0 0 7 [(0, .ref o_p0), (2, .int x_2), (3, .long x_3), (5, .int x_5)] [] (cl_X5_stepsBetween T o_p0 a_p0 s_p0_there s_p0_kind s_p0_tag s_p0_size s_p0_lineCount s_p0_near) := by
  intro n_
  induction n_ with
  | zero => intro x_3 x_5 h; exact h.elim
  | succ n_ hK_7 =>
    intro x_3 x_5 h
    replace h : w_X5_stepsBetween_7s x_2 s_p0_size s_p0_near Q (w_X5_stepsBetween_7 x_2 s_p0_size s_p0_near Q n_) x_3 x_5 := h
    unfold w_X5_stepsBetween_7s at h
    refine v_iload X 3 dX5_stepsBetween_7 rfl ?_
    refine v_aload_n X 0 dX5_stepsBetween_9 rfl rfl ?_
    refine v_get X 0 6 (F := TX5) (N := 8) iX5_stepsBetween_X5 rfl rfl (by decide) (List.mem_of_getElem? (i := 1) rfl) rfl rfl dX5_stepsBetween_10 ?_
    refine v_icmp_ge X (tgt := 78) dX5_stepsBetween_13 (by decide) (fun c_13 => ?_) (fun c_13 => ?_)
    · replace h := h.1 c_13
      refine v_bipush X dX5_stepsBetween_78 (v := (-9 : Int32)) (by decide) ?_
      exact r _ _ _ () _ dX5_stepsBetween_80 h rfl
    · replace h := h.2 c_13
      refine v_lload_n X 2 dX5_stepsBetween_16 rfl rfl ?_
      refine v_iload_n X 1 dX5_stepsBetween_17 rfl rfl ?_
      refine v_callNi0 X (As := [.long x_3, .int x_2]) (rest := []) 2 (c_X6_has (l := vl E) (D := vD E) (T := T) (x_0 := x_3) (x_2 := x_2) h) gX5_stepsBetween_X6_has_n38 (List.mem_of_getElem? (i := 36) rfl) (List.mem_of_getElem? (i := 4) rfl) (List.mem_of_getElem? (i := 3) rfl) rfl rfl (by decide +kernel) ⟨Nat.zero_le _, Nat.zero_le _⟩ ⟨rfl, rfl, by decide, by decide⟩ (Nat.le_of_ble_eq_true rfl) rfl dX5_stepsBetween_18 (fun r_18 h => ?_)
      refine v_if_eq X (tgt := 27) dX5_stepsBetween_21 (by decide) (fun c_21 => ?_) (fun c_21 => ?_)
      · replace h := h.1 c_21
        refine v_lload_n X 2 dX5_stepsBetween_27 rfl rfl ?_
        refine v_lstore X (lv' := [(6, .long x_3), (0, .ref o_p0), (2, .int x_2), (3, .long x_3), (5, .int x_5)]) dX5_stepsBetween_28 (by decide) rfl ?_
        refine v_iconst X dX5_stepsBetween_30 (v := (0 : Int32)) (by decide) ?_
        refine v_istore X (lv' := [(8, .int (0 : Int32)), (6, .long x_3), (0, .ref o_p0), (2, .int x_2), (3, .long x_3), (5, .int x_5)]) dX5_stepsBetween_31 (by decide) rfl ?_
        refine v_lv (lv' := [(0, .ref o_p0), (2, .int x_2), (3, .long x_3), (5, .int x_5), (6, .long x_3), (8, .int (0 : Int32))]) [2, 3, 4, 5, 1, 0] rfl ?_
        obtain ⟨n_, h⟩ := h
        exact k_X5_stepsBetween_33 X r hK_7 n_ _ _ h
      · replace h := h.2 c_21
        refine v_iload X 3 dX5_stepsBetween_24 rfl ?_
        exact r _ _ _ () _ dX5_stepsBetween_26 h rfl
set_option maxHeartbeats 4000000 in
set_option maxRecDepth 100000 in
theorem c_X5_stepsBetween {l : Launch} {D : va_G} {T : Nat → ClassId} {o_p0 : Nat} {a_p0 : Nat → Nat} {s_p0_there : Int32} {s_p0_kind : Int32} {s_p0_tag : Int32} {s_p0_size : Int32} {s_p0_lineCount : Int32} {s_p0_near : Nat → Int64} {x_1 : Int32} {x_2 : Int32} {Q : Int32 → Prop} (h : w_X5_stepsBetween x_1 x_2 s_p0_size s_p0_near Q) : vCi l D (vT T) yX5_stepsBetween wsX5_stepsBetween (vr 1 22) [.ref o_p0, .int x_1, .int x_2] (cl_X5_stepsBetween T o_p0 a_p0 s_p0_there s_p0_kind s_p0_tag s_p0_size s_p0_lineCount s_p0_near) (fun v (u : Unit) => Q v) (fun (u : Unit) => (cl_X5_stepsBetween T o_p0 a_p0 s_p0_there s_p0_kind s_p0_tag s_p0_size s_p0_lineCount s_p0_near)) := by
  refine vC_i (cc := cX5_stepsBetween) (nL := 9) (by decide +kernel) rfl ⟨rfl, rfl⟩ (Nat.le_of_ble_eq_true rfl) rfl ?_
  intro E el eD X r
  unfold w_X5_stepsBetween at h
  refine v_lconst X dX5_stepsBetween_0 (v := (1 : Int64)) (by decide) ?_
  refine v_iload_n X 1 dX5_stepsBetween_1 rfl rfl ?_
  refine v_lshl X dX5_stepsBetween_2 ?_
  refine v_lstore_n X (lv' := [(3, .long (vshl (1 : Int64) x_1)), (0, .ref o_p0), (1, .int x_1), (2, .int x_2)]) dX5_stepsBetween_3 rfl (by decide) rfl ?_
  refine v_iconst X dX5_stepsBetween_4 (v := (0 : Int32)) (by decide) ?_
  refine v_istore X (lv' := [(5, .int (0 : Int32)), (3, .long (vshl (1 : Int64) x_1)), (0, .ref o_p0), (1, .int x_1), (2, .int x_2)]) dX5_stepsBetween_5 (by decide) rfl ?_
  refine v_lv (lv' := [(0, .ref o_p0), (2, .int x_2), (3, .long (vshl (1 : Int64) x_1)), (5, .int (0 : Int32))]) [2, 4, 1, 0] rfl ?_
  obtain ⟨n_, h⟩ := h
  exact k_X5_stepsBetween_7 X r n_ _ _ h
-- X5_digestOn
abbrev cl_X5_digestOn (T : Nat → ClassId) (o_p0 : Nat) (a_p0 : Nat → Nat) (s_p0_there : Int32) (s_p0_kind : Int32) (s_p0_tag : Int32) (s_p0_size : Int32) (s_p0_lineCount : Int32) (s_p0_sets : Nat → Int64) : va_W := [vO o_p0 2 [.ref (a_p0 0), .ref (a_p0 1), .ref (a_p0 2), .int s_p0_there, .int s_p0_kind, .int s_p0_tag, .int s_p0_size, .int s_p0_lineCount], vJ T (a_p0 0) 45 s_p0_sets]
abbrev r_X5_digestOn (E : vE) (T : Nat → ClassId) (o_p0 : Nat) (a_p0 : Nat → Nat) (s_p0_there : Int32) (s_p0_kind : Int32) (s_p0_tag : Int32) (s_p0_size : Int32) (s_p0_lineCount : Int32) (s_p0_sets : Nat → Int64) (Q : Int64 → Prop) : Prop := vRl E cX5_digestOn (fun v (u : Unit) => Q v) (fun (u : Unit) => (cl_X5_digestOn T o_p0 a_p0 s_p0_there s_p0_kind s_p0_tag s_p0_size s_p0_lineCount s_p0_sets))
def w_X5_digestOn_54s (s_p0_there : Int32) (s_p0_kind : Int32) (s_p0_size : Int32) (s_p0_lineCount : Int32) (s_p0_sets : Nat → Int64) (Q : Int64 → Prop) (K_54 : (Int64) → (Int32) → Prop) (x_3 : Int64) (x_5 : Int32) : Prop := ((s_p0_lineCount ≤ x_5 → (Q x_3)) ∧ (¬ s_p0_lineCount ≤ x_5 → (vp_in x_5 45 ∧ (K_54 (((31 : Int64) * x_3) + (s_p0_sets (x_5).toNatClampNeg)) (x_5 + (1 : Int32))))))
def w_X5_digestOn_54 (s_p0_there : Int32) (s_p0_kind : Int32) (s_p0_size : Int32) (s_p0_lineCount : Int32) (s_p0_sets : Nat → Int64) (Q : Int64 → Prop) : Nat → (Int64) → (Int32) → Prop
  | 0 => fun _ _ => False
  | n_ + 1 => w_X5_digestOn_54s s_p0_there s_p0_kind s_p0_size s_p0_lineCount s_p0_sets Q (w_X5_digestOn_54 s_p0_there s_p0_kind s_p0_size s_p0_lineCount s_p0_sets Q n_)
def w_X5_digestOn (x_1 : Int64) (s_p0_there : Int32) (s_p0_kind : Int32) (s_p0_size : Int32) (s_p0_lineCount : Int32) (s_p0_sets : Nat → Int64) (Q : Int64 → Prop) : Prop := ((¬ s_p0_there = 0 → (∀ (y_50 : Int64), y_50 = (((31 : Int64) * (((31 : Int64) * (((31 : Int64) * x_1) + (s_p0_size).toInt64)) + (s_p0_lineCount).toInt64)) + (s_p0_kind).toInt64) → (∃ n_, w_X5_digestOn_54 s_p0_there s_p0_kind s_p0_size s_p0_lineCount s_p0_sets Q n_ y_50 (0 : Int32)))) ∧ (s_p0_there = 0 → (Q (((31 : Int64) * x_1) - (1 : Int64)))))
-- X5_digestOn
theorem iX5_digestOn_X5 : ∀ w ∈ wsX50, w ∈ wsX5_digestOn := by decide +kernel
set_option maxHeartbeats 4000000 in
set_option maxRecDepth 100000 in
theorem k_X5_digestOn_54 {E : vE} {T : Nat → ClassId} {o_p0 : Nat} {a_p0 : Nat → Nat} {s_p0_there : Int32} {s_p0_kind : Int32} {s_p0_tag : Int32} {s_p0_size : Int32} {s_p0_lineCount : Int32} {s_p0_sets : Nat → Int64} {Q : Int64 → Prop} (X : vX E cX5_digestOn 6 RX5 wsX5_digestOn (vT T) (vr 0 0)) (r : r_X5_digestOn E T o_p0 a_p0 s_p0_there s_p0_kind s_p0_tag s_p0_size s_p0_lineCount s_p0_sets Q) : ∀ (n_ : Nat) (x_3 : Int64) (x_5 : Int32), w_X5_digestOn_54 s_p0_there s_p0_kind s_p0_size s_p0_lineCount s_p0_sets Q n_ x_3 x_5 → V E 0 0 54 [(0, .ref o_p0), (3, .long x_3), (5, .int x_5)] [] (cl_X5_digestOn T o_p0 a_p0 s_p0_there s_p0_kind s_p0_tag s_p0_size s_p0_lineCount s_p0_sets) := by
  intro n_
  induction n_ with
  | zero => intro x_3 x_5 h; exact h.elim
  | succ n_ hK_54 =>
    intro x_3 x_5 h
    replace h : w_X5_digestOn_54s s_p0_there s_p0_kind s_p0_size s_p0_lineCount s_p0_sets Q (w_X5_digestOn_54 s_p0_there s_p0_kind s_p0_size s_p0_lineCount s_p0_sets Q n_) x_3 x_5 := h
    unfold w_X5_digestOn_54s at h
    refine v_iload X 2 dX5_digestOn_54 rfl ?_
    refine v_aload_n X 0 dX5_digestOn_56 rfl rfl ?_
    refine v_get X 0 7 (F := TX5) (N := 8) iX5_digestOn_X5 rfl rfl (by decide) (List.mem_of_getElem? (i := 4) rfl) rfl rfl dX5_digestOn_57 ?_
    refine v_icmp_ge X (tgt := 83) dX5_digestOn_60 (by decide) (fun c_60 => ?_) (fun c_60 => ?_)
    · replace h := h.1 c_60
      refine v_lload_n X 1 dX5_digestOn_83 rfl rfl ?_
      exact r _ _ _ () _ dX5_digestOn_84 h rfl
    · replace h := h.2 c_60
      refine v_ldc2 X (v := (31 : Int64)) (List.mem_of_getElem? (i := 2) rfl) dX5_digestOn_63 ?_
      refine v_lload_n X 1 dX5_digestOn_66 rfl rfl ?_
      refine v_lmul X dX5_digestOn_67 ?_
      refine v_aload_n X 0 dX5_digestOn_68 rfl rfl ?_
      refine v_get X 0 0 (F := TX5) (N := 8) iX5_digestOn_X5 rfl rfl (by decide) (List.mem_of_getElem? (i := 6) rfl) rfl rfl dX5_digestOn_69 ?_
      refine v_iload X 2 dX5_digestOn_72 rfl ?_
      refine v_lald X 1 1 rfl rfl h.1 dX5_digestOn_74 ?_
      replace h := h.2
      refine v_ladd X dX5_digestOn_75 ?_
      refine v_lstore_n X (lv' := [(3, .long (((31 : Int64) * x_3) + (s_p0_sets (x_5).toNatClampNeg))), (0, .ref o_p0), (5, .int x_5)]) dX5_digestOn_76 rfl (by decide) rfl ?_
      refine v_iinc X (v := (x_5 + (1 : Int32))) (lv' := [(5, .int (x_5 + (1 : Int32))), (3, .long (((31 : Int64) * x_3) + (s_p0_sets (x_5).toNatClampNeg))), (0, .ref o_p0)]) 2 dX5_digestOn_77 rfl rfl (by decide) rfl ?_
      refine v_goto X (tgt := 54) dX5_digestOn_80 (by decide) ?_
      refine v_lv (lv' := [(0, .ref o_p0), (3, .long (((31 : Int64) * x_3) + (s_p0_sets (x_5).toNatClampNeg))), (5, .int (x_5 + (1 : Int32)))]) [2, 1, 0] rfl ?_
      exact hK_54 _ _ h
set_option maxHeartbeats 4000000 in
set_option maxRecDepth 100000 in
theorem c_X5_digestOn {l : Launch} {D : va_G} {T : Nat → ClassId} {o_p0 : Nat} {a_p0 : Nat → Nat} {s_p0_there : Int32} {s_p0_kind : Int32} {s_p0_tag : Int32} {s_p0_size : Int32} {s_p0_lineCount : Int32} {s_p0_sets : Nat → Int64} {x_1 : Int64} {Q : Int64 → Prop} (h : w_X5_digestOn x_1 s_p0_there s_p0_kind s_p0_size s_p0_lineCount s_p0_sets Q) : vCl l D (vT T) yX5_digestOn wsX5_digestOn (vr 0 0) [.ref o_p0, .long x_1] (cl_X5_digestOn T o_p0 a_p0 s_p0_there s_p0_kind s_p0_tag s_p0_size s_p0_lineCount s_p0_sets) (fun v (u : Unit) => Q v) (fun (u : Unit) => (cl_X5_digestOn T o_p0 a_p0 s_p0_there s_p0_kind s_p0_tag s_p0_size s_p0_lineCount s_p0_sets)) := by
  refine vC_l (cc := cX5_digestOn) (nL := 6) (by decide +kernel) rfl ⟨rfl, rfl⟩ (Nat.le_of_ble_eq_true rfl) rfl ?_
  intro E el eD X r
  unfold w_X5_digestOn at h
  refine v_aload_n X 0 dX5_digestOn_0 rfl rfl ?_
  refine v_get X 0 3 (F := TX5) (N := 8) iX5_digestOn_X5 rfl rfl (by decide) (List.mem_of_getElem? (i := 1) rfl) rfl rfl dX5_digestOn_1 ?_
  refine v_if_ne X (tgt := 15) dX5_digestOn_4 (by decide) (fun c_4 => ?_) (fun c_4 => ?_)
  · replace h := h.1 c_4
    refine v_ldc2 X (v := (31 : Int64)) (List.mem_of_getElem? (i := 2) rfl) dX5_digestOn_15 ?_
    refine v_lload_n X 1 dX5_digestOn_18 rfl rfl ?_
    refine v_lmul X dX5_digestOn_19 ?_
    refine v_aload_n X 0 dX5_digestOn_20 rfl rfl ?_
    refine v_get X 0 6 (F := TX5) (N := 8) iX5_digestOn_X5 rfl rfl (by decide) (List.mem_of_getElem? (i := 3) rfl) rfl rfl dX5_digestOn_21 ?_
    refine v_i2l X dX5_digestOn_24 ?_
    refine v_ladd X dX5_digestOn_25 ?_
    refine v_lstore_n X (lv' := [(3, .long (((31 : Int64) * x_1) + (s_p0_size).toInt64)), (0, .ref o_p0), (1, .long x_1)]) dX5_digestOn_26 rfl (by decide) rfl ?_
    refine v_ldc2 X (v := (31 : Int64)) (List.mem_of_getElem? (i := 2) rfl) dX5_digestOn_27 ?_
    refine v_lload_n X 0 dX5_digestOn_30 rfl rfl ?_
    refine v_lmul X dX5_digestOn_31 ?_
    refine v_aload_n X 1 dX5_digestOn_32 rfl rfl ?_
    refine v_get X 0 7 (F := TX5) (N := 8) iX5_digestOn_X5 rfl rfl (by decide) (List.mem_of_getElem? (i := 4) rfl) rfl rfl dX5_digestOn_33 ?_
    refine v_i2l X dX5_digestOn_36 ?_
    refine v_ladd X dX5_digestOn_37 ?_
    refine v_lstore_n X (lv' := [(3, .long (((31 : Int64) * (((31 : Int64) * x_1) + (s_p0_size).toInt64)) + (s_p0_lineCount).toInt64)), (0, .ref o_p0), (1, .long x_1)]) dX5_digestOn_38 rfl (by decide) rfl ?_
    refine v_ldc2 X (v := (31 : Int64)) (List.mem_of_getElem? (i := 2) rfl) dX5_digestOn_39 ?_
    refine v_lload_n X 0 dX5_digestOn_42 rfl rfl ?_
    refine v_lmul X dX5_digestOn_43 ?_
    refine v_aload_n X 1 dX5_digestOn_44 rfl rfl ?_
    refine v_get X 0 4 (F := TX5) (N := 8) iX5_digestOn_X5 rfl rfl (by decide) (List.mem_of_getElem? (i := 5) rfl) rfl rfl dX5_digestOn_45 ?_
    refine v_i2l X dX5_digestOn_48 ?_
    refine v_ladd X dX5_digestOn_49 ?_
    refine v_topl (fun y_50 e_50 => ?_)
    replace h := h y_50 e_50
    refine v_lstore_n X (lv' := [(3, .long y_50), (0, .ref o_p0), (1, .long x_1)]) dX5_digestOn_50 rfl (by decide) rfl ?_
    refine v_iconst X dX5_digestOn_51 (v := (0 : Int32)) (by decide) ?_
    refine v_istore X (lv' := [(5, .int (0 : Int32)), (3, .long y_50), (0, .ref o_p0), (1, .long x_1)]) dX5_digestOn_52 (by decide) rfl ?_
    refine v_lv (lv' := [(0, .ref o_p0), (3, .long y_50), (5, .int (0 : Int32))]) [2, 1, 0] rfl ?_
    obtain ⟨n_, h⟩ := h
    exact k_X5_digestOn_54 X r n_ _ _ h
  · replace h := h.2 c_4
    refine v_ldc2 X (v := (31 : Int64)) (List.mem_of_getElem? (i := 2) rfl) dX5_digestOn_7 ?_
    refine v_lload_n X 1 dX5_digestOn_10 rfl rfl ?_
    refine v_lmul X dX5_digestOn_11 ?_
    refine v_lconst X dX5_digestOn_12 (v := (1 : Int64)) (by decide) ?_
    refine v_lsub X dX5_digestOn_13 ?_
    exact r _ _ _ () _ dX5_digestOn_14 h rfl