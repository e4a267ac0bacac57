/-! the law, 8: constructors -/
section VST
variable {E : vE} {T : Nat → ClassId} {cc : ByteArray} {nL : Nat} {own : String} {Ts : List Cond} {rm : Room} {k n pc : Nat} {lv : List (Nat × Value)} {st : List Value} {ws : va_W}
theorem v_iastK (X : vX E cc nL own Ts (vT T) rm) {a N : Nat} {f : Nat → Int32} {i x : Int32} (q0 j : Nat) (ha : ws[q0]? = some (a, .inl (T 0, N, .inl f))) (hj : i.toNatClampNeg = j) (hin : vp_in i N) (hdg : decode cc pc = .ok (.iastore, 1)) (kk : V E k n (pc + 1) lv st (ws.set q0 (a, .inl (T 0, N, .inl (upd f j x))))) : V E k n pc lv (.int x :: .int i :: .ref a :: st) ws := by
  subst hj
  exact v_iast X q0 0 ha rfl hin rfl hdg kk
theorem v_aastK (X : vX E cc nL own Ts (vT T) rm) {a N v : Nat} {vs : List Value} {f : Nat → Option Nat} {i : Int32} (q0 qk j : Nat) (ha : ws[q0]? = some (a, .inl (T 2, N, .inr (.inr (.inr (.inr f)))))) (hv : ws[qk]? = some (v, .inr (2, vs))) (hj : i.toNatClampNeg = j) (hin : vp_in i N) (hdg : decode cc pc = .ok (.aastore, 1)) (kk : V E k n (pc + 1) lv st (ws.set q0 (a, .inl (T 2, N, .inr (.inr (.inr (.inr (va_up f j (some v)))))))) ) : V E k n pc lv (.ref v :: .int i :: .ref a :: st) ws := by
  subst hj
  exact v_aast X (r := (RX5, TX5, 8)) q0 2 qk ha rfl hv rfl hin rfl hdg kk
theorem v_eq {ws' : va_W} (h : ws = ws') (kk : V E k n pc lv st ws') : V E k n pc lv st ws := by
  subst h
  exact kk
end VST
theorem iX5_init_X5 : ∀ w ∈ wsX50, w ∈ wsX5_init := by decide +kernel
set_option maxHeartbeats 4000000 in
set_option maxRecDepth 100000 in
theorem c_X5_init {l : Launch} {D : va_G} {T : Nat → ClassId} {o : Nat} : vKv l D (vT T) yX5_init wsX5_init { frames := 1, cells := 3, slots := 135, locals := 12 } [.ref o] [vO o 2 [.null, .null, .null, .int 0, .int 0, .int 0, .int 0, .int 0]] 3 135 (fun _ : Nat → Nat => True) (fun a => [vO o 2 [.ref (a 0), .ref (a 1), .ref (a 2), .int 0, .int 0, .int 0, .int 0, .int 0], vJ T (a 2) 45 (fun _ => 0), vJ T (a 0) 45 (fun _ => 0), vJ T (a 1) 45 (fun _ => 0)]) := by
  refine vK_v (cc := cX5_init) (nL := 1) (lv := [(0, .ref o)]) (by decide +kernel) rfl rfl (Nat.le_of_ble_eq_true rfl) rfl ?_
  intro E el eD X I O r
  refine v_aload_n X 0 dX5_init_0 rfl rfl ?_
  refine v_obj X (List.mem_of_getElem? (i := 1) rfl) (List.mem_of_getElem? (i := 2) rfl) (List.mem_of_getElem? (i := 3) rfl) (Nat.le_of_ble_eq_true rfl) (Nat.le_of_ble_eq_true rfl) dX5_init_1 ?_
  refine v_aload_n X 0 dX5_init_4 rfl rfl ?_
  refine v_bipush X dX5_init_5 (v := (45 : Int32)) (by decide) ?_
  refine v_newJ X 45 (List.mem_of_getElem? (i := 4) rfl) (by decide) (by decide) (by decide) (Nat.le_of_ble_eq_true rfl) (Nat.le_of_ble_eq_true rfl) dX5_init_7 (fun q0 => ?_)
  refine v_putF X I 0 0 (F := TX5) (N := 8) iX5_init_X5 rfl tyX5 tyX5_ok nmX5 rfl (by decide) (List.mem_of_getElem? (i := 5) rfl) rfl rfl rfl rfl rfl rfl (Nat.le_of_ble_eq_true rfl) dX5_init_9 ?_
  refine v_aload_n X 0 dX5_init_12 rfl rfl ?_
  refine v_bipush X dX5_init_13 (v := (45 : Int32)) (by decide) ?_
  refine v_newJ X 45 (List.mem_of_getElem? (i := 4) rfl) (by decide) (by decide) (by decide) (Nat.le_of_ble_eq_true rfl) (Nat.le_of_ble_eq_true rfl) dX5_init_15 (fun q1 => ?_)
  refine v_putF X I 0 1 (F := TX5) (N := 8) iX5_init_X5 rfl tyX5 tyX5_ok nmX5 rfl (by decide) (List.mem_of_getElem? (i := 6) rfl) rfl rfl rfl rfl rfl rfl (Nat.le_of_ble_eq_true rfl) dX5_init_17 ?_
  refine v_aload_n X 0 dX5_init_20 rfl rfl ?_
  refine v_bipush X dX5_init_21 (v := (45 : Int32)) (by decide) ?_
  refine v_newJ X 45 (List.mem_of_getElem? (i := 4) rfl) (by decide) (by decide) (by decide) (Nat.le_of_ble_eq_true rfl) (Nat.le_of_ble_eq_true rfl) dX5_init_23 (fun q2 => ?_)
  refine v_putF X I 0 2 (F := TX5) (N := 8) iX5_init_X5 rfl tyX5 tyX5_ok nmX5 rfl (by decide) (List.mem_of_getElem? (i := 7) rfl) rfl rfl rfl rfl rfl rfl (Nat.le_of_ble_eq_true rfl) dX5_init_25 ?_
  exact r _ _ (fun j => if j = 0 then q0 else if j = 1 then q1 else q2) _ dX5_init_28 trivial (pm_pl 4 [0, 3, 1, 2] rfl (by decide) rfl)
theorem iX4_init_X4 : ∀ w ∈ wsX40, w ∈ wsX4_init := by decide +kernel
set_option maxHeartbeats 4000000 in
set_option maxRecDepth 100000 in
theorem c_X4_init {l : Launch} {D : va_G} {T : Nat → ClassId} {o : Nat} : vKv l D (vT T) yX4_init wsX4_init { frames := 1, cells := 3, slots := 138, locals := 12 } [.ref o] [vO o 1 [.null, .null, .null, .long 0, .int 0, .int 0, .int 0, .int 0, .long 0]] 3 138 (fun _ : Nat → Nat => True) (fun a => [vO o 1 [.ref (a 0), .ref (a 1), .ref (a 2), .long 0, .int 0, .int 0, .int 0, .int 0, .long 0], vJ T (a 0) 46 (fun _ => 0), vJ T (a 1) 46 (fun _ => 0), vJ T (a 2) 46 (fun _ => 0)]) := by
  refine vK_v (cc := cX4_init) (nL := 1) (lv := [(0, .ref o)]) (by decide +kernel) rfl rfl (Nat.le_of_ble_eq_true rfl) rfl ?_
  intro E el eD X I O r
  refine v_aload_n X 0 dX4_init_0 rfl rfl ?_
  refine v_obj X (List.mem_of_getElem? (i := 1) rfl) (List.mem_of_getElem? (i := 2) rfl) (List.mem_of_getElem? (i := 3) rfl) (Nat.le_of_ble_eq_true rfl) (Nat.le_of_ble_eq_true rfl) dX4_init_1 ?_
  refine v_aload_n X 0 dX4_init_4 rfl rfl ?_
  refine v_bipush X dX4_init_5 (v := (46 : Int32)) (by decide) ?_
  refine v_newJ X 46 (List.mem_of_getElem? (i := 4) rfl) (by decide) (by decide) (by decide) (Nat.le_of_ble_eq_true rfl) (Nat.le_of_ble_eq_true rfl) dX4_init_7 (fun q0 => ?_)
  refine v_putF X I 0 0 (F := TX4) (N := 9) iX4_init_X4 rfl tyX4 tyX4_ok nmX4 rfl (by decide) (List.mem_of_getElem? (i := 5) rfl) rfl rfl rfl rfl rfl rfl (Nat.le_of_ble_eq_true rfl) dX4_init_9 ?_
  refine v_aload_n X 0 dX4_init_12 rfl rfl ?_
  refine v_bipush X dX4_init_13 (v := (46 : Int32)) (by decide) ?_
  refine v_newJ X 46 (List.mem_of_getElem? (i := 4) rfl) (by decide) (by decide) (by decide) (Nat.le_of_ble_eq_true rfl) (Nat.le_of_ble_eq_true rfl) dX4_init_15 (fun q1 => ?_)
  refine v_putF X I 0 1 (F := TX4) (N := 9) iX4_init_X4 rfl tyX4 tyX4_ok nmX4 rfl (by decide) (List.mem_of_getElem? (i := 6) rfl) rfl rfl rfl rfl rfl rfl (Nat.le_of_ble_eq_true rfl) dX4_init_17 ?_
  refine v_aload_n X 0 dX4_init_20 rfl rfl ?_
  refine v_bipush X dX4_init_21 (v := (46 : Int32)) (by decide) ?_
  refine v_newJ X 46 (List.mem_of_getElem? (i := 4) rfl) (by decide) (by decide) (by decide) (Nat.le_of_ble_eq_true rfl) (Nat.le_of_ble_eq_true rfl) dX4_init_23 (fun q2 => ?_)
  refine v_putF X I 0 2 (F := TX4) (N := 9) iX4_init_X4 rfl tyX4 tyX4_ok nmX4 rfl (by decide) (List.mem_of_getElem? (i := 7) rfl) rfl rfl rfl rfl rfl rfl (Nat.le_of_ble_eq_true rfl) dX4_init_25 ?_
  exact r _ _ (fun j => if j = 0 then q0 else if j = 1 then q1 else q2) _ dX4_init_28 trivial (pm_pl 4 [0, 1, 2, 3] rfl (by decide) rfl)
theorem iX2_init_X2 : ∀ w ∈ wsX20, w ∈ wsX2_init := by decide +kernel
set_option maxHeartbeats 4000000 in
set_option maxRecDepth 100000 in
theorem c_X2_init {l : Launch} {D : va_G} {T : Nat → ClassId} {o : Nat} : vKv l D (vT T) yX2_init wsX2_init { frames := 1, cells := 3, slots := 137, locals := 12 } [.ref o] [vO o 0 [.null, .null, .null, .int 0, .int 0, .int 0, .int 0]] 3 137 (fun _ : Nat → Nat => True) (fun a => [vO o 0 [.ref (a 0), .ref (a 1), .ref (a 2), .int 0, .int 0, .int 0, .int 0], vI T (a 0) 45 (fun _ => 0), vJ T (a 1) 46 (fun _ => 0), vJ T (a 2) 46 (fun _ => 0)]) := by
  refine vK_v (cc := cX2_init) (nL := 1) (lv := [(0, .ref o)]) (by decide +kernel) rfl rfl (Nat.le_of_ble_eq_true rfl) rfl ?_
  intro E el eD X I O r
  refine v_aload_n X 0 dX2_init_0 rfl rfl ?_
  refine v_obj X (List.mem_of_getElem? (i := 1) rfl) (List.mem_of_getElem? (i := 2) rfl) (List.mem_of_getElem? (i := 3) rfl) (Nat.le_of_ble_eq_true rfl) (Nat.le_of_ble_eq_true rfl) dX2_init_1 ?_
  refine v_aload_n X 0 dX2_init_4 rfl rfl ?_
  refine v_bipush X dX2_init_5 (v := (45 : Int32)) (by decide) ?_
  refine v_newI X 45 (List.mem_of_getElem? (i := 4) rfl) (by decide) (by decide) (by decide) (Nat.le_of_ble_eq_true rfl) (Nat.le_of_ble_eq_true rfl) dX2_init_7 (fun q0 => ?_)
  refine v_putF X I 0 0 (F := TX2) (N := 7) iX2_init_X2 rfl tyX2 tyX2_ok nmX2 rfl (by decide) (List.mem_of_getElem? (i := 5) rfl) rfl rfl rfl rfl rfl rfl (Nat.le_of_ble_eq_true rfl) dX2_init_9 ?_
  refine v_aload_n X 0 dX2_init_12 rfl rfl ?_
  refine v_bipush X dX2_init_13 (v := (46 : Int32)) (by decide) ?_
  refine v_newJ X 46 (List.mem_of_getElem? (i := 6) rfl) (by decide) (by decide) (by decide) (Nat.le_of_ble_eq_true rfl) (Nat.le_of_ble_eq_true rfl) dX2_init_15 (fun q1 => ?_)
  refine v_putF X I 0 1 (F := TX2) (N := 7) iX2_init_X2 rfl tyX2 tyX2_ok nmX2 rfl (by decide) (List.mem_of_getElem? (i := 7) rfl) rfl rfl rfl rfl rfl rfl (Nat.le_of_ble_eq_true rfl) dX2_init_17 ?_
  refine v_aload_n X 0 dX2_init_20 rfl rfl ?_
  refine v_bipush X dX2_init_21 (v := (46 : Int32)) (by decide) ?_
  refine v_newJ X 46 (List.mem_of_getElem? (i := 6) rfl) (by decide) (by decide) (by decide) (Nat.le_of_ble_eq_true rfl) (Nat.le_of_ble_eq_true rfl) dX2_init_23 (fun q2 => ?_)
  refine v_putF X I 0 2 (F := TX2) (N := 7) iX2_init_X2 rfl tyX2 tyX2_ok nmX2 rfl (by decide) (List.mem_of_getElem? (i := 8) rfl) rfl rfl rfl rfl rfl rfl (Nat.le_of_ble_eq_true rfl) dX2_init_25 ?_
  exact r _ _ (fun j => if j = 0 then q0 else if j = 1 then q1 else q2) _ dX2_init_28 trivial (pm_pl 4 [0, 1, 2, 3] rfl (by decide) rfl)
