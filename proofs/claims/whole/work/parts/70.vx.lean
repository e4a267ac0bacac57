/-! the law, 1: worlds in any order; things made; the law's own script -/
theorem pm_P {D : va_G} {cl : List vw_C} {ws ws' : va_W} {H : Heap} (h : ws.Perm ws') (hP : va_P D cl ws H) : va_P D cl ws' H := fun k q hq => by
  obtain ⟨i, hi⟩ := List.getElem?_of_mem (h.mem_iff.mpr (List.mem_of_getElem? hq))
  exact hP i q hi
theorem pm_D {A : Nat → Prop} {ws ws' : va_W} (h : ws.Perm ws') (hD : va_D A ws) : va_D A ws' := by
  have n1 : (ws.map (fun q => q.1)).Nodup := by
    rw [List.Nodup, List.pairwise_iff_getElem]
    intro i j hi hj hij e
    rw [List.length_map] at hi hj
    rw [List.getElem_map, List.getElem_map] at e
    have := hD.1 i j ws[i] ws[j] (List.getElem?_eq_getElem hi) (List.getElem?_eq_getElem hj) e
    omega
  have n2 : (ws'.map (fun q => q.1)).Nodup := (h.map (fun q : Nat × va_E => q.1)).nodup_iff.mp n1
  rw [List.Nodup, List.pairwise_iff_getElem] at n2
  refine ⟨fun i j p q hp hq e => ?_, fun k q hq => ?_⟩
  · obtain ⟨li, ei⟩ := List.getElem?_eq_some_iff.mp hp
    obtain ⟨lj, ej⟩ := List.getElem?_eq_some_iff.mp hq
    rcases Nat.lt_trichotomy i j with c | c | c
    · exact absurd (by rw [List.getElem_map, List.getElem_map, ei, ej]; exact e) (n2 i j (by rw [List.length_map]; exact li) (by rw [List.length_map]; exact lj) c)
    · exact c
    · exact absurd (by rw [List.getElem_map, List.getElem_map, ei, ej]; exact e.symm) (n2 j i (by rw [List.length_map]; exact lj) (by rw [List.length_map]; exact li) c)
  · obtain ⟨i, hi⟩ := List.getElem?_of_mem (h.mem_iff.mpr (List.mem_of_getElem? hq))
    exact hD.2 i q hi
theorem pm_fm {α β : Type} (f : β → Option α) : ∀ (js : List β) (B : List α), js.map f = B.map some → js.filterMap f = B
  | [], [], _ => rfl
  | [], b :: B, h => by simp at h
  | j :: js, [], h => by simp at h
  | j :: js, b :: B, h => by
    rw [List.map_cons, List.map_cons] at h
    have h1 : f j = some b := (List.cons.inj h).1
    rw [List.filterMap_cons_some h1, pm_fm f js B (List.cons.inj h).2]
theorem pm_rg {α : Type} (A : List α) : (List.range A.length).map (fun i => A[i]?) = A.map some := by
  apply List.ext_getElem?
  intro i
  rw [List.getElem?_map, List.getElem?_map]
  by_cases hi : i < A.length
  · rw [List.getElem?_range hi]
    show some (A[i]?) = Option.map some A[i]?
    rw [List.getElem?_eq_getElem hi]
    rfl
  · rw [List.getElem?_eq_none (by rw [List.length_range]; omega), List.getElem?_eq_none (by omega)]
    rfl
theorem pm_pl {α : Type} {A B : List α} (N : Nat) (js : List Nat) (hA : A.length = N) (hj : js.isPerm (List.range N) = true) (h : js.map (fun i => A[i]?) = B.map some) : A.Perm B := by
  subst hA
  have p : js.Perm (List.range A.length) := List.isPerm_iff.mp hj
  have e1 := pm_fm _ _ _ h
  have e2 := pm_fm _ _ _ (pm_rg A)
  have := p.filterMap (fun i => A[i]?)
  rw [e1, e2] at this
  exact this.symm
theorem pm_ex {α : Type} {A B C Z : List α} (N : Nat) (js : List Nat) (hA : A.length = N) (hj : js.isPerm (List.range N) = true) (h : js.map (fun i => A[i]?) = (B ++ C).map some) : (A ++ Z).Perm (B ++ (C ++ Z)) := by
  have := (pm_pl N js hA hj h).append_right Z
  rwa [List.append_assoc] at this
/-! all of a row of blocks; all but one -/
def als {α : Type} (g : Nat → List α) : Nat → List α
  | 0 => []
  | n + 1 => als g n ++ g n
def msk {α : Type} (g : Nat → List α) (f : Nat) : Nat → List α := fun i => if i = f then [] else g i
def ups {α : Type} (f : Nat) (v : α) (g : Nat → α) : Nat → α := fun i => if i = f then v else g i
theorem ups_same {α : Type} {f : Nat} {v : α} {g : Nat → α} : ups f v g f = v := if_pos rfl
theorem ups_ne {α : Type} {f i : Nat} {v : α} {g : Nat → α} (h : i ≠ f) : ups f v g i = g i := if_neg h
theorem als_cong {α : Type} {g g' : Nat → List α} : ∀ n, (∀ i, i < n → g i = g' i) → als g n = als g' n
  | 0, _ => rfl
  | n + 1, h => by rw [als, als, als_cong n (fun i hi => h i (by omega)), h n (by omega)]
theorem als_at {α : Type} (g : Nat → List α) (f : Nat) : ∀ n, f < n → (als g n).Perm (g f ++ als (msk g f) n)
  | 0, h => absurd h (Nat.not_lt_zero _)
  | n + 1, h => by
    rw [als, als]
    by_cases e : n = f
    · subst e
      have e1 : als (msk g n) n = als g n := als_cong n (fun i hi => if_neg (by omega))
      have e2 : msk g n n = [] := if_pos rfl
      rw [e1, e2, List.append_nil]
      exact List.perm_append_comm
    · have e2 : msk g f n = g n := if_neg e
      rw [e2, ← List.append_assoc]
      exact (als_at g f n (by omega)).append_right _
theorem msk_cong {α : Type} {g g' : Nat → List α} {f : Nat} (h : ∀ i, i ≠ f → g i = g' i) : msk g f = msk g' f := by
  funext i
  unfold msk
  by_cases e : i = f
  · rw [if_pos e, if_pos e]
  · rw [if_neg e, if_neg e, h i e]
theorem als_up {α β : Type} (G : β → List α) (w : Nat → β) (f : Nat) (v : β) (n : Nat) (h : f < n) : (als (fun j => G (ups f v w j)) n).Perm (G v ++ als (msk (fun j => G (w j)) f) n) := by
  have := als_at (fun j => G (ups f v w j)) f n h
  have e : msk (fun j => G (ups f v w j)) f = msk (fun j => G (w j)) f := msk_cong (fun i hi => by rw [ups_ne hi])
  rw [e] at this
  have e2 : G (ups f v w f) = G v := by rw [ups_same]
  rw [e2] at this
  exact this
/-- two changed places, taken for one another -/
theorem als_sw {α β : Type} (G : β → List α) (w : Nat → β) (a b : Nat) (v : β) (n : Nat) (ha : a < n) (hb : b < n) (hab : a ≠ b) : (als (fun j => G (ups a (w b) (ups b v w) j)) n).Perm (als (fun j => G (ups a v w j)) n) := by
  have p1 := als_up G (ups b v w) a (w b) n ha
  have p2 := als_at (msk (fun j => G (ups b v w j)) a) b n hb
  have q1 := als_up G w a v n ha
  have q2 := als_at (msk (fun j => G (w j)) a) b n hb
  have e1 : msk (fun j => G (ups b v w j)) a b = G v := by
    show (if b = a then [] else G (ups b v w b)) = G v
    rw [if_neg (Ne.symm hab), ups_same]
  have e2 : msk (fun j => G (w j)) a b = G (w b) := if_neg (Ne.symm hab)
  have e3 : msk (msk (fun j => G (ups b v w j)) a) b = msk (msk (fun j => G (w j)) a) b := by
    refine msk_cong (fun i hi => ?_)
    unfold msk
    by_cases e : i = a
    · rw [if_pos e, if_pos e]
    · rw [if_neg e, if_neg e]
      show G (ups b v w i) = G (w i)
      rw [ups_ne hi]
  rw [e1, e3] at p2
  rw [e2] at q2
  refine (p1.trans (p2.append_left _)).trans ((q1.trans (q2.append_left _)).trans ?_).symm
  exact List.perm_append_comm_assoc _ _ _
theorem pmf1 {α : Type} {B R A Z X M : List α} (h : A.Perm (X ++ M)) : ((B ++ (R ++ A)) ++ Z).Perm ((B ++ X) ++ ((R ++ M) ++ Z)) := by
  simp only [List.append_assoc]
  refine List.Perm.append_left B ?_
  have h1 : (R ++ (A ++ Z)).Perm (R ++ (X ++ (M ++ Z))) := by
    have := (h.append_right Z).append_left R
    simpa only [List.append_assoc] using this
  exact h1.trans (List.perm_append_comm_assoc _ _ _)
theorem pmf2 {α : Type} {B A W Z X M : List α} (h : A.Perm (X ++ M)) : ((B ++ (A ++ W)) ++ Z).Perm ((B ++ X) ++ ((M ++ W) ++ Z)) := by
  simp only [List.append_assoc]
  refine List.Perm.append_left B ?_
  have := h.append_right (W ++ Z)
  simpa only [List.append_assoc] using this
theorem pmf3 {α : Type} {B A A2 Z X X2 M M2 : List α} (h : A.Perm (X ++ M)) (h2 : A2.Perm (X2 ++ M2)) : ((B ++ (A ++ A2)) ++ Z).Perm ((B ++ (X ++ X2)) ++ ((M ++ M2) ++ Z)) := by
  simp only [List.append_assoc]
  refine List.Perm.append_left B ?_
  have h1 : (A ++ (A2 ++ Z)).Perm (X ++ (M ++ (X2 ++ (M2 ++ Z)))) := by
    have := h.append (h2.append_right Z)
    simpa only [List.append_assoc] using this
  exact h1.trans ((List.perm_append_comm_assoc _ _ _).append_left X)
theorem va_nd_of : ∀ {l : List Nat}, l.Nodup → va_nd l = true
  | [], _ => rfl
  | a :: l, h => by
    obtain ⟨h1, h2⟩ := List.nodup_cons.mp h
    simp only [va_nd, Bool.and_eq_true, decide_eq_true_eq]
    exact ⟨h1, va_nd_of h2⟩
theorem pl_1 {α : Type} (a b : List α) : (List.range a.length).map (fun i => (a ++ b)[i]?) = a.map some := by
  apply List.ext_getElem?
  intro i
  rw [List.getElem?_map, List.getElem?_map]
  by_cases hi : i < a.length
  · rw [List.getElem?_range hi]
    show some ((a ++ b)[i]?) = Option.map some a[i]?
    rw [List.getElem?_append_left hi, List.getElem?_eq_getElem hi]
    rfl
  · rw [List.getElem?_eq_none (by rw [List.length_range]; omega), List.getElem?_eq_none (by omega)]
    rfl
theorem pl_2 {α : Type} (a b : List α) : (List.range' a.length b.length).map (fun i => (a ++ b)[i]?) = b.map some := by
  apply List.ext_getElem?
  intro i
  rw [List.getElem?_map, List.getElem?_map]
  by_cases hi : i < b.length
  · rw [List.getElem?_range' hi]
    show some ((a ++ b)[a.length + 1 * i]?) = Option.map some b[i]?
    rw [List.getElem?_append_right (by omega), show a.length + 1 * i - a.length = i by omega, List.getElem?_eq_getElem hi]
    rfl
  · rw [List.getElem?_eq_none (by rw [List.length_range']; omega), List.getElem?_eq_none (by omega)]
    rfl
/-- things made: what a method's start says of the tables' arrays, besides -/
def vAO (U : State) : Prop := va_AO "QuadWorlds$World" U ∧ (Cond.arrayOver (.array .int)).before #[] U = true
theorem vAO.moved {u U : State} (hvm : u.vm.Alike U.vm) (h : vAO u) : vAO U := ⟨va_AO.moved hvm h.1, Jvm.Stand.arrayOver_alikeB hvm h.2⟩
def vNm (E : vE) : Prop := match E with
  | (_, _, _, _, s, _, _, _, meth, _, _, _, _) => meth.name = "<init>"
def vAE (E : vE) : Prop := match E with
  | (_, _, _, _, s, _, _, _, _, _, _, _, _) => vAO s
def vKv {S : Type} (l : Launch) (D : va_G) (tys : List (ClassId × FieldType)) (y : MethodName) (wd : List Cond) (rm : Room) (as : List Value) (pre : va_W) (mc ms : Nat) (Q : S → Prop) (post : S → va_W) : Prop := ∀ sz : Nat, Met l y wd rm (va_Pc as (fun U => vPre D tys sz pre U ∧ vAO U)) (va_Qv Q (fun u => vPost D (va_A pre sz) (post u)) (va_A pre sz)) mc ms (va_A pre sz)
def vRk {S : Type} (E : vE) (cc : ByteArray) (mc ms : Nat) (Q : S → Prop) (post : S → va_W) : Prop := ∀ (pc : Nat) (lv : List (Nat × Value)) (u : S) (ws : va_W), decode cc pc = .ok (.return_, 1) → Q u → ws.Perm (post u) → V E mc ms pc lv [] ws
theorem vK_v {S : Type} {l : Launch} {D : va_G} {tys : List (ClassId × FieldType)} {y : MethodName} {wd wd' : List Cond} {rm : Room} {as : List Value} {pre : va_W} {mc ms : Nat} {Q : S → Prop} {post : S → va_W} {cc : ByteArray} {nL : Nat} {lv : List (Nat × Value)} (hy : plainName y.cls = true) (hyn : y.name = "<init>") (hw : wd = Cond.code y cc nL none :: wd') (hlen : (lg_sl as).length ≤ nL) (hlv : lv_args 0 as = lv) (body : ∀ E : vE, vl E = l → vD E = D → vX E cc nL y.cls wd tys rm → vNm E → vAE E → vRk E cc mc ms Q post → V E 0 0 0 lv [] pre) : vKv l D tys y wd rm as pre mc ms Q post := by
  intro sz
  refine Met.ofW (cc := cc) (maxL := nL) (ret := none) hy hw ?_
  intro p e s m args below meth c s₁ B hml hv
  obtain ⟨rfl, ⟨hsz, hP, hK, hD0, hN⟩, hAO⟩ := hv
  have hx := B.exec
  have hb := B.bytes
  have hr := B.returns
  have hts := atoms_spec (ws := wd) B.pre
  have hown : s.vm.findClass y.cls = some m.cls := findClass_of_methodNamed B.named
  have hlocks := B.notSynchronized
  have hin : meth.name = "<init>" := (name_of_methodNamed B.named B.method).1.trans hyn
  subst hsz
  have hD := hD0.self (sz := s.heap.size)
  generalize hAe : va_A pre s.heap.size = A at hD ⊢
  have hA : ∀ q : Nat, s.heap.size ≤ q → A q := fun q h => by rw [← hAe]; exact Or.inr h
  refine vC_start (D := D) (A := A) hml hlen hlv hP hD ?_
  refine body _ rfl rfl ⟨hx, hb, hml, hown, hts, hK, hA, hN, rfl⟩ hin hAO ?_
  exact fun pc lv u ws hdg hq hp H locs ls hP hD hS h => W.vret hx hb hr (fun t ht hW => ⟨⟨u, rfl, hq, pm_P hp (by rw [ht]; exact hP), pm_D hp hD⟩, hS.F ht⟩) hS.2.2 hdg
theorem vpreK_blind {D : va_G} {tys : List (ClassId × FieldType)} {sz : Nat} {wc : va_W} {as : List Value} : FrameBlind (va_Pc as (fun U => vPre D tys sz wc U ∧ vAO U)) := fun a U g mk q => by
  obtain ⟨q0, ⟨q1, qP, qK, qD, qN⟩, qO⟩ := q
  exact ⟨q0, ⟨q1, qP, va_K.moved (u := U) (U := U.calling g mk a) (Vm.Alike.refl U.vm) qK, qD, vN.same (u := U) (U := U.calling g mk a) rfl qN⟩, vAO.moved (u := U) (U := U.calling g mk a) (Vm.Alike.refl U.vm) qO⟩
theorem ta_I {D : va_G} {T : Nat → ClassId} {s : State} {cA : ClassId} (hK : va_K D vwCl (vT T) s) (h : va_K D vwCl (vT T ++ [(cA, .int)]) s) : cA = T 0 := by
  have a : s.vm.findClass ("[" ++ (FieldType.int).toString) = some (T 0) := (hK.2 0 (T 0, .int) rfl).2
  have b : s.vm.findClass ("[" ++ (FieldType.int).toString) = some cA := (h.2 4 (cA, .int) rfl).2
  exact Option.some.inj (b.symm.trans a)
theorem ta_J {D : va_G} {T : Nat → ClassId} {s : State} {cA : ClassId} (hK : va_K D vwCl (vT T) s) (h : va_K D vwCl (vT T ++ [(cA, .long)]) s) : cA = T 1 := by
  have a : s.vm.findClass ("[" ++ (FieldType.long).toString) = some (T 1) := (hK.2 1 (T 1, .long) rfl).2
  have b : s.vm.findClass ("[" ++ (FieldType.long).toString) = some cA := (h.2 4 (cA, .long) rfl).2
  exact Option.some.inj (b.symm.trans a)
theorem ta_W {D : va_G} {T : Nat → ClassId} {s : State} {cA : ClassId} (hK : va_K D vwCl (vT T) s) (h : va_K D vwCl (vT T ++ [(cA, .object "QuadWorlds$World")]) s) : cA = T 2 := by
  obtain ⟨_, _, _, _, _, a⟩ := (hK.2 2 (T 2, .object "QuadWorlds$World") rfl).2
  obtain ⟨_, _, _, _, _, b⟩ := (h.2 4 (cA, .object "QuadWorlds$World") rfl).2
  exact Option.some.inj (b.symm.trans a)
theorem ta_A {D : va_G} {T : Nat → ClassId} {s : State} {cA : ClassId} (hK : va_K D vwCl (vT T) s) (h : va_K D vwCl (vT T ++ [(cA, .array .int)]) s) : cA = T 3 := by
  have a : s.vm.findClass ("[" ++ (FieldType.array .int).toString) = some (T 3) := (hK.2 3 (T 3, .array .int) rfl).2
  have b : s.vm.findClass ("[" ++ (FieldType.array .int).toString) = some cA := (h.2 4 (cA, .array .int) rfl).2
  exact Option.some.inj (b.symm.trans a)
section VNEW
variable {E : vE} {T : Nat → ClassId} {cc : ByteArray} {nL : Nat} {own : String} {Ts : List Cond} {rm rm' : Room} {k n pc : Nat} {lv : List (Nat × Value)} {st rest As : List Value} {ws wc wr : va_W} {y : MethodName} {bytes : ByteArray} {maxL ix : Nat} {ret : Option FieldType} {wd wd' : List Cond} {S : Type}
theorem v_perm {ws' : va_W} (h : ws.Perm ws') (kk : V E k n pc lv st ws') : V E k n pc lv st ws := by
  obtain ⟨p, l, e, R, s, m, args, below, meth, c, Q, D, A⟩ := E
  exact fun H locs ls hP hD hS hl => kk H locs ls (pm_P h hP) (pm_D h hD) hS hl
theorem v_wd {k' n' : Nat} (h1 : k ≤ k') (h2 : n ≤ n') (kk : V E k' n' pc lv st ws) : V E k n pc lv st ws := by
  obtain ⟨p, l, e, R, s, m, args, below, meth, c, Q, D, A⟩ := E
  exact fun H locs ls hP hD hS hl => W.widen h1 h2 (kk H locs ls hP hD hS hl)
theorem v_newI (X : vX E cc nL own Ts (vT T) rm) {z : Int32} (N : Nat) (harr : Cond.arrayClass .int ∈ Ts) (hz : ¬ z < 0) (hN : z.toNatClampNeg = N) (h4 : N * 4 ≤ 536870912) (hk : k + 1 ≤ rm.cells) (hn : n + N ≤ rm.slots) (hdg : decode cc pc = .ok (.newarray .int, 2)) (kk : ∀ q : Nat, V E (k + 1) (n + N) (pc + 2) lv (.ref q :: st) (ws ++ [vI T q N (fun _ => 0)])) : V E k n pc lv (.int z :: st) ws := by
  obtain ⟨p, l, e, R, s, m, args, below, meth, c, Q, D, A⟩ := E
  obtain ⟨hx, hb, hml, hown, hts, hK, hA, hN', hR⟩ := X
  subst hR
  intro H locs ls hP hD hS h
  refine va_newa (atype := .int) (ty := .int) (a0 := (N, .inl (fun _ => 0))) hx hb (hts _ harr) rfl hK hP hD hS hA (fun cA => rfl) hz hN h4 hk hn hdg (fun q cA H1 hK1 hP1 hD1 hS1 => ?_)
  obtain rfl := ta_I hK hK1
  exact kk q H1 locs ls hP1 hD1 hS1 h
theorem v_newJ (X : vX E cc nL own Ts (vT T) rm) {z : Int32} (N : Nat) (harr : Cond.arrayClass .long ∈ Ts) (hz : ¬ z < 0) (hN : z.toNatClampNeg = N) (h4 : N * 8 ≤ 536870912) (hk : k + 1 ≤ rm.cells) (hn : n + N ≤ rm.slots) (hdg : decode cc pc = .ok (.newarray .long, 2)) (kk : ∀ q : Nat, V E (k + 1) (n + N) (pc + 2) lv (.ref q :: st) (ws ++ [vJ T q N (fun _ => 0)])) : V E k n pc lv (.int z :: st) ws := by
  obtain ⟨p, l, e, R, s, m, args, below, meth, c, Q, D, A⟩ := E
  obtain ⟨hx, hb, hml, hown, hts, hK, hA, hN', hR⟩ := X
  subst hR
  intro H locs ls hP hD hS h
  refine va_newa (atype := .long) (ty := .long) (a0 := (N, .inr (.inl (fun _ => 0)))) hx hb (hts _ harr) rfl hK hP hD hS hA (fun cA => rfl) hz hN h4 hk hn hdg (fun q cA H1 hK1 hP1 hD1 hS1 => ?_)
  obtain rfl := ta_J hK hK1
  exact kk q H1 locs ls hP1 hD1 hS1 h
theorem v_newW (X : vX E cc nL own Ts (vT T) rm) (O : vAE E) {z : Int32} (N : Nat) (hcl : Cond.classLink own ix "QuadWorlds$World" ∈ Ts) (hz : ¬ z < 0) (hN : z.toNatClampNeg = N) (h4 : N * 4 ≤ 536870912) (hk : k + 1 ≤ rm.cells) (hn : n + N ≤ rm.slots) (hdg : decode cc pc = .ok (.anewarray ix, 3)) (kk : ∀ q : Nat, V E (k + 1) (n + N) (pc + 3) lv (.ref q :: st) (ws ++ [vR T 2 q N (fun _ => none)])) : V E k n pc lv (.int z :: st) ws := by
  obtain ⟨p, l, e, R, s, m, args, below, meth, c, Q, D, A⟩ := E
  obtain ⟨hx, hb, hml, hown, hts, hK, hA, hN', hR⟩ := X
  subst hR
  intro H locs ls hP hD hS h
  refine va_newq hx hb hown (hts _ hcl) O.1 hK hP hD hS hA hz hN h4 hk hn hdg (fun q cA H1 hK1 hP1 hD1 hS1 => ?_)
  obtain rfl := ta_W hK hK1
  exact kk q H1 locs ls hP1 hD1 hS1 h
theorem v_newA (X : vX E cc nL own Ts (vT T) rm) (O : vAE E) (hcl : Cond.classLink own ix "[[I" ∈ Ts) (harr : Cond.arrayClass .int ∈ Ts) (hk : k + 5 ≤ rm.cells) (hn : n + 52 ≤ rm.slots) (hdg : decode cc pc = .ok (.multianewarray ix 2, 4)) (kk : ∀ (q : Nat) (r : Nat → Nat), V E (k + 5) (n + 52) (pc + 4) lv (.ref q :: st) (ws ++ [vR T 3 q 4 (fun i => if i < 4 then some (r i) else none), vI T (r 0) 12 (fun _ => 0), vI T (r 1) 12 (fun _ => 0), vI T (r 2) 12 (fun _ => 0), vI T (r 3) 12 (fun _ => 0)])) : V E k n pc lv (.int 12 :: .int 4 :: st) ws := by
  obtain ⟨p, l, e, R, s, m, args, below, meth, c, Q, D, A⟩ := E
  obtain ⟨hx, hb, hml, hown, hts, hK, hA, hN', hR⟩ := X
  subst hR
  intro H locs ls hP hD hS h
  have hcy : s.vm.findClass (FieldType.array .int).toString = some (T 0) := (hK.2 0 (T 0, .int) rfl).2
  have hov : (Cond.arrayOver (.array .int)).before args s = true := Jvm.Stand.arrayOver_alikeB (Vm.Alike.refl s.vm) O.2
  refine va_mna (X := ws) (L := []) (f := fun _ => .inl (T 0, 12, .inl (fun _ => 0))) (ty := .int) (cy := T 0) (N' := 4) (K' := 12) (z := (12, .inl (fun _ => 0))) hx hb hown (hts _ hcl) hov (hts _ harr) hcy hK (by rw [show va_pl ([] : List Nat) (fun _ => (.inl (T 0, 12, .inl (fun _ => 0)) : va_E)) = [] from rfl, List.append_nil]; exact hP) (by rw [show va_pl ([] : List Nat) (fun _ => (.inl (T 0, 12, .inl (fun _ => 0)) : va_E)) = [] from rfl, List.append_nil]; exact hD) hS hA (by decide) (by decide) (by decide) (by decide) (by decide) (by decide) (by decide) rfl rfl hk hn (fun c0 => ?_) hdg (fun q r cA H1 hr1 hr2 hK1 hP1 hD1 hS1 => ?_)
  · show ({ cls := c0, slots := Array.replicate 12 (.int 0), vm := .none } : Cell) = arrV c0 12 (fun _ => .int 0)
    rw [arrV_new]
  · obtain rfl := ta_A hK hK1
    have e : ws ++ [vR T 3 q 4 (fun i => if i < 4 then some (r i) else none), vI T (r 0) 12 (fun _ => 0), vI T (r 1) 12 (fun _ => 0), vI T (r 2) 12 (fun _ => 0), vI T (r 3) 12 (fun _ => 0)] = (ws ++ [(q, .inl (T 3, 4, .inr (.inr (.inr (.inr (fun i => if i < 4 then some (r i) else none))))))]) ++ va_pl ([] ++ (List.range 4).map r) (vr_up (fun _ => .inl (T 0, 12, .inl (fun _ => 0))) ((List.range 4).map r) (.inl (T 0, 12, .inl (fun _ => 0)))) := by
      rw [List.append_assoc]
      refine congrArg (ws ++ ·) ?_
      have c : ∀ a, vr_up (fun _ => (.inl (T 0, 12, .inl (fun _ => 0)) : va_E)) ((List.range 4).map r) (.inl (T 0, 12, .inl (fun _ => 0))) a = .inl (T 0, 12, .inl (fun _ => 0)) := fun a => by
        unfold vr_up
        split <;> rfl
      show _ = _ :: va_pl [r 0, r 1, r 2, r 3] _
      unfold va_pl
      simp only [List.map_cons, List.map_nil, c]
    have kk1 := kk q r
    rw [e] at kk1
    exact kk1 H1 locs ls hP1 hD1 hS1 h
theorem v_new (X : vX E cc nL own Ts (vT T) rm) {C : String} {F : u_T} {N ci : Nat} {fs : List Value} (ty0 : Nat → FieldType) (hin : ∀ w ∈ u_ws C F N, w ∈ Ts) (hty : ∀ k, k < N → parseFieldDescriptor (F k).2.2.1 = some (ty0 k)) (hcl : Cond.classLink own ix C ∈ Ts) (hinst : Cond.instantiable C N ∈ Ts) (hini : Cond.initialized C ∈ Ts) (hc : vwCl[ci]? = some (C, F, N)) (hfs : ∀ j, j < N → defaultValue (ty0 j) = vp_V fs j) (hk : k + 1 ≤ rm.cells) (hn : n + N ≤ rm.slots) (hdg : decode cc pc = .ok (.new ix, 3)) (kk : ∀ q : Nat, V E (k + 1) (n + N) (pc + 3) lv (.ref q :: st) (ws ++ [vO q ci fs])) : V E k n pc lv st ws := by
  obtain ⟨p, l, e, R, s, m, args, below, meth, c, Q, D, A⟩ := E
  obtain ⟨hx, hb, hml, hown, hts, hK, hA, hN', hR⟩ := X
  subst hR
  exact fun H locs ls hP hD hS h => va_new hx hb hts hin ty0 hty hown (hts _ hcl) (hts _ hinst) (hts _ hini) hK hP hD hS hA hc hfs hk hn hdg (fun q H1 hP1 hD1 hS1 => kk q H1 locs ls hP1 hD1 hS1 h)
theorem v_putF (X : vX E cc nL own Ts (vT T) rm) (I : vNm E) {C ref : String} {F : u_T} {N ci a : Nat} {fs : List Value} {v : Value} {ty : FieldType} (q0 f : Nat) (hin : ∀ w ∈ u_ws C F N, w ∈ Ts) (hc : vwCl[ci]? = some (C, F, N)) (ty0 : Nat → FieldType) (hty : ∀ k, k < N → parseFieldDescriptor (F k).2.2.1 = some (ty0 k)) (hnm : ∀ a, a < N → ∀ b, b < N → a ≠ b → (F a).2.1 ≠ (F b).2.1) (he : ws[q0]? = some (a, .inr (ci, fs))) (hf : f < N) (hlink : Cond.fieldLink own ix ref (F f).2.1 (F f).2.2.1 ∈ Ts) (hs : (F f).1 = ref) (hfin : (F f).2.2.2 = true) (hdecl : (F f).1 = own) (hd : ty0 f = ty) (hn : narrow ty v = v) (hfit : Jvm.fits ty v = true) (hl : f < fs.length) (hdg : decode cc pc = .ok (.putfield ix, 3)) (kk : V E k n (pc + 3) lv st (ws.set q0 (a, .inr (ci, fs.set f v)))) : V E k n pc lv (v :: .ref a :: st) ws := by
  obtain ⟨p, l, e, R, s, m, args, below, meth, c, Q, D, A⟩ := E
  obtain ⟨hx, hb, hml, hown, hts, hK, hA, hN, hR⟩ := X
  exact fun H locs ls hP hD hS h => va_putF hx hb hts hin ty0 hty hnm hown hK hP hD hS q0 he hc f hf (hts _ hlink) (fun x h9 => by rw [← hs]; exact h9) hfin I hdecl (by rw [hty f hf, hd]) hn hfit hl hdg (fun H1 locs1 hP1 hD1 hS1 => kk H1 locs1 ls hP1 hD1 hS1 h)
theorem v_obj (X : vX E cc nL own Ts (vT T) rm) {a : Nat} (h1 : Cond.methodLink own ix objectInit ∈ Ts) (h2 : Cond.instanceMethod objectInit ∈ Ts) (h3 : Cond.code objectInit ⟨#[0xb1]⟩ 1 none ∈ Ts) (hfr : 1 ≤ rm.frames) (hlo : (st.map fun v => v.category).sum + 12 ≤ rm.locals) (hdg : decode cc pc = .ok (.invokespecial ix, 3)) (kk : V E k n (pc + 3) lv st ws) : V E k n pc lv (.ref a :: st) ws := by
  obtain ⟨p, l, e, R, s, m, args, below, meth, c, Q, D, A⟩ := E
  obtain ⟨hx, hb, hml, hown, hts, hK, hA, hN, hR⟩ := X
  subst hR
  exact fun H locs ls hP hD hS h => W.objInit hx hb hown (hts _ h1) (hts _ h2) (hts _ h3) rfl h.1 rfl hdg hfr (by show 2 * 0 + _ + 12 ≤ _; omega) (W.eq (g2 := F0 m (pc + 3) ls st) rfl (kk H locs ls hP hD hS h))
theorem v_callKv (X : vX E cc nL own Ts (vT T) rm) (O : vAE E) {b mc ms : Nat} {Q' : S → Prop} {post : S → va_W} (N0 : Nat) (hC : vKv (vl E) (vD E) (vT T) y wd rm' (.ref b :: As) wc mc ms Q' post) (hG : GoodIn Ts wd) (hw : wd = Cond.code y bytes maxL none :: wd') (hn : As.length = N0) (hini : Cond.initialized y.cls ∈ Ts) (hl : Cond.methodLink own ix y ∈ Ts) (hinst : Cond.instanceMethod y ∈ Ts) (hnm : y.name = "<init>") (hd : y.cls ≠ "java/lang/invoke/MethodHandle" ∧ y.cls ≠ "java/lang/invoke/VarHandle" ∧ (parseMethodDescriptor y.desc).map (fun d => d.parameters.length) = some N0) (hkn : k + mc ≤ rm.cells ∧ n + ms ≤ rm.slots) (hR : rm'.cells = mc ∧ rm'.slots = ms ∧ rm'.frames + 1 ≤ rm.frames ∧ 8 + (maxL + 11) + rm'.locals ≤ rm.locals) (hrest : (rest.map fun v => v.category).sum ≤ 8) (hp : ws.Perm (wc ++ wr)) (hst : st = As.reverse ++ .ref b :: rest) (hdg : decode cc pc = .ok (.invokespecial ix, 3)) (kk : ∀ u : S, Q' u → V E (k + mc) (n + ms) (pc + 3) lv rest (wr ++ post u)) : V E k n pc lv st ws := by
  refine v_perm hp ?_
  obtain ⟨p, l, e, R, s, m, args, below, meth, c, Qe, D, A⟩ := E
  obtain ⟨hx, hb, hml, hown, hts, hK, hA, hN, hRm⟩ := X
  subst hRm
  subst hst
  intro H locs ls hP hD hS h
  have hCc := pl_1 wc wr
  have hRr := pl_2 wc wr
  have h1 : va_nd (List.range wc.length) = true := va_nd_of List.nodup_range
  have h2 : va_nd (List.range' wc.length wr.length) = true := va_nd_of (List.nodup_range' (step := 1))
  have hdis : ∀ i ∈ List.range' wc.length wr.length, i ∉ List.range wc.length := fun i hi hj => by
    have := List.mem_range'_1.mp hi
    have := List.mem_range.mp hj
    omega
  have hPc : va_P D vwCl wc H := fun i q hq => hP i q (by
    have hi := (List.getElem?_eq_some_iff.mp hq).1
    rw [List.getElem?_append_left hi]; exact hq)
  have hDc := hD.sub _ h1 hCc
  have hFc := va_free hD hS hA _ hCc
  refine va_callv (va_runI (As := As) (rest := rest) ⟨hx, hb, hml, hown, hts⟩ (hC H.size) (cwI N0 hts hG hw hR.1 hR.2.1 (hts _ hini) (hts _ hl) (hts _ hinst) hnm hd ⟨hR.2.2.1, hR.2.2.2⟩) ⟨vpreK_blind, fun U hU hW => ⟨rfl, ⟨by rw [hU], by rw [hU]; exact hPc, va_K.moved hW.alike hK, hDc.weaken (fun _ _ _ _ => trivial), vN.warm hW hN⟩, vAO.moved hW.alike O⟩⟩ rfl hn (h.1.trans hml) rfl (lv_room hrest) hdg ⟨hkn.1, hkn.2⟩) hS (fun q _ h => hFc q h) hFc (fun u t H1 locs1 ht hvm hw hB hz1 hk1 hS => ?_)
  obtain ⟨hP1, hD1⟩ := hB
  rw [ht] at hP1
  obtain ⟨hP, hD⟩ := va_join hP hD _ _ hCc hRr h2 hdis hk1 hFc hP1 hD1
  exact kk u hw H1 locs1 ls hP hD hS h
theorem v_callKn (X : vX E cc nL own Ts (vT T) rm) (O : vAE E) {host : String} {b mc ms : Nat} {Q' : S → Prop} {post : S → va_W} (N0 : Nat) (hC : vKv (vl E) (vD E) (vT T) y wd rm' (.ref b :: As) wc mc ms Q' post) (hG : GoodIn Ts wd) (hw : wd = Cond.code y bytes maxL none :: wd') (hn : As.length = N0) (hini : Cond.initialized y.cls ∈ Ts) (hl : Cond.methodLinkNest own ix y host ∈ vNw) (hinst : Cond.instanceMethod y ∈ Ts) (hnm : y.name = "<init>") (hd : y.cls ≠ "java/lang/invoke/MethodHandle" ∧ y.cls ≠ "java/lang/invoke/VarHandle" ∧ (parseMethodDescriptor y.desc).map (fun d => d.parameters.length) = some N0) (hkn : k + mc ≤ rm.cells ∧ n + ms ≤ rm.slots) (hR : rm'.cells = mc ∧ rm'.slots = ms ∧ rm'.frames + 1 ≤ rm.frames ∧ 8 + (maxL + 11) + rm'.locals ≤ rm.locals) (hrest : (rest.map fun v => v.category).sum ≤ 8) (hp : ws.Perm (wc ++ wr)) (hst : st = As.reverse ++ .ref b :: rest) (hdg : decode cc pc = .ok (.invokespecial ix, 3)) (kk : ∀ u : S, Q' u → V E (k + mc) (n + ms) (pc + 3) lv rest (wr ++ post u)) : V E k n pc lv st ws := by
  refine v_perm hp ?_
  obtain ⟨p, l, e, R, s, m, args, below, meth, c, Qe, D, A⟩ := E
  obtain ⟨hx, hb, hml, hown, hts, hK, hA, hN, hRm⟩ := X
  subst hRm
  subst hst
  intro H locs ls hP hD hS h
  have hCc := pl_1 wc wr
  have hRr := pl_2 wc wr
  have h1 : va_nd (List.range wc.length) = true := va_nd_of List.nodup_range
  have h2 : va_nd (List.range' wc.length wr.length) = true := va_nd_of (List.nodup_range' (step := 1))
  have hdis : ∀ i ∈ List.range' wc.length wr.length, i ∉ List.range wc.length := fun i hi hj => by
    have := List.mem_range'_1.mp hi
    have := List.mem_range.mp hj
    omega
  have hPc : va_P D vwCl wc H := fun i q hq => hP i q (by
    have hi := (List.getElem?_eq_some_iff.mp hq).1
    rw [List.getElem?_append_left hi]; exact hq)
  have hDc := hD.sub _ h1 hCc
  have hFc := va_free hD hS hA _ hCc
  refine va_callv (va_runIN (As := As) (rest := rest) ⟨hx, hb, hml, hown, hts⟩ (hC H.size) ⟨va_cnB N0 hts hG hw hR.1 hR.2.1 (hN _ hl) (hts _ hini) hd ⟨hR.2.2.1, hR.2.2.2⟩, hnm, hts _ hinst⟩ ⟨vpreK_blind, fun U hU hW => ⟨rfl, ⟨by rw [hU], by rw [hU]; exact hPc, va_K.moved hW.alike hK, hDc.weaken (fun _ _ _ _ => trivial), vN.warm hW hN⟩, vAO.moved hW.alike O⟩⟩ rfl hn (h.1.trans hml) rfl (lv_room hrest) hdg ⟨hkn.1, hkn.2⟩) hS (fun q _ h => hFc q h) hFc (fun u t H1 locs1 ht hvm hw hB hz1 hk1 hS => ?_)
  obtain ⟨hP1, hD1⟩ := hB
  rw [ht] at hP1
  obtain ⟨hP, hD⟩ := va_join hP hD _ _ hCc hRr h2 hdis hk1 hFc hP1 hD1
  exact kk u hw H1 locs1 ls hP hD hS h
theorem v_callPi (X : vX E cc nL own Ts (vT T) rm) {C : String} {b ci N : Nat} {F : u_T} {fs : List Value} {Q' : Int32 → S → Prop} {post : S → va_W} (N0 q0 : Nat) (hC : vCi (vl E) (vD E) (vT T) y wd rm' (.ref b :: As) wc Q' post) (hG : GoodIn Ts (wsV own ix C y wd)) (hw : wd = Cond.code y bytes maxL ret :: wd') (hn : As.length = N0) (hd : y.cls = C ∧ y.cls ≠ "java/lang/invoke/MethodHandle" ∧ y.cls ≠ "java/lang/invoke/VarHandle" ∧ (parseMethodDescriptor y.desc).map (fun d => d.parameters.length) = some N0) (hkn : k ≤ rm.cells ∧ n ≤ rm.slots) (hR : rm'.cells = 0 ∧ rm'.slots = 0 ∧ rm'.frames + 1 ≤ rm.frames ∧ 8 + (maxL + 11) + rm'.locals ≤ rm.locals) (hrest : (rest.map fun v => v.category).sum ≤ 8) (he : wc[q0]? = some (b, .inr (ci, fs))) (hc : vwCl[ci]? = some (C, F, N)) (hp : ws.Perm (wc ++ wr)) (hst : st = As.reverse ++ .ref b :: rest) (hdg : decode cc pc = .ok (.invokevirtual ix, 3)) (kk : ∀ (r : Int32) (u : S), Q' r u → V E k n (pc + 3) lv (.int r :: rest) (post u ++ wr)) : V E k n pc lv st ws :=
  v_perm hp (v_callVi X N0 q0 hC hG hw hn hd hkn hR hrest he hc (List.range wc.length) (List.range' wc.length wr.length) (pl_1 wc wr) (pl_2 wc wr) (va_nd_of List.nodup_range) (va_nd_of (List.nodup_range' (step := 1))) (fun i hi hj => by
    have := List.mem_range'_1.mp hi
    have := List.mem_range.mp hj
    omega) hst hdg (fun r u h => v_perm List.perm_append_comm (kk r u h)))
theorem v_callPl (X : vX E cc nL own Ts (vT T) rm) {C : String} {b ci N : Nat} {F : u_T} {fs : List Value} {Q' : Int64 → S → Prop} {post : S → va_W} (N0 q0 : Nat) (hC : vCl (vl E) (vD E) (vT T) y wd rm' (.ref b :: As) wc Q' post) (hG : GoodIn Ts (wsV own ix C y wd)) (hw : wd = Cond.code y bytes maxL ret :: wd') (hn : As.length = N0) (hd : y.cls = C ∧ y.cls ≠ "java/lang/invoke/MethodHandle" ∧ y.cls ≠ "java/lang/invoke/VarHandle" ∧ (parseMethodDescriptor y.desc).map (fun d => d.parameters.length) = some N0) (hkn : k ≤ rm.cells ∧ n ≤ rm.slots) (hR : rm'.cells = 0 ∧ rm'.slots = 0 ∧ rm'.frames + 1 ≤ rm.frames ∧ 8 + (maxL + 11) + rm'.locals ≤ rm.locals) (hrest : (rest.map fun v => v.category).sum ≤ 8) (he : wc[q0]? = some (b, .inr (ci, fs))) (hc : vwCl[ci]? = some (C, F, N)) (hp : ws.Perm (wc ++ wr)) (hst : st = As.reverse ++ .ref b :: rest) (hdg : decode cc pc = .ok (.invokevirtual ix, 3)) (kk : ∀ (r : Int64) (u : S), Q' r u → V E k n (pc + 3) lv (.long r :: rest) (post u ++ wr)) : V E k n pc lv st ws :=
  v_perm hp (v_callVl X N0 q0 hC hG hw hn hd hkn hR hrest he hc (List.range wc.length) (List.range' wc.length wr.length) (pl_1 wc wr) (pl_2 wc wr) (va_nd_of List.nodup_range) (va_nd_of (List.nodup_range' (step := 1))) (fun i hi hj => by
    have := List.mem_range'_1.mp hi
    have := List.mem_range.mp hj
    omega) hst hdg (fun r u h => v_perm List.perm_append_comm (kk r u h)))
/-- the law's script -/
def vS (E : vE) (b L : Nat) (xs : Nat → Int32) : Prop := match E with
  | (_, _, _, _, s, _, _, _, _, _, _, _, A) => va_X b L xs s s.heap ∧ b < s.heap.size ∧ ¬ A b
theorem v_sld (X : vX E cc nL own Ts (vT T) rm) {b L : Nat} {xs : Nat → Int32} (h0 : vS E b L xs) {i : Int32} (hin : vp_in i L) (hdg : decode cc pc = .ok (.iaload, 1)) (kk : V E k n (pc + 1) lv (.int (xs i.toNatClampNeg) :: st) ws) : V E k n pc lv (.int i :: .ref b :: st) ws := by
  obtain ⟨p, l, e, R, s, m, args, below, meth, c, Q, D, A⟩ := E
  obtain ⟨hx, hb, hml, hown, hts, hK, hA, hN, hR⟩ := X
  exact fun H locs ls hP hD hS h => va_sld hx hb h0.1 h0.2.1 h0.2.2 hS hin hdg (kk H locs ls hP hD hS h)
theorem v_slen (X : vX E cc nL own Ts (vT T) rm) {b L : Nat} {xs : Nat → Int32} (h0 : vS E b L xs) (hdg : decode cc pc = .ok (.arraylength, 1)) (kk : V E k n (pc + 1) lv (.int (nI L) :: st) ws) : V E k n pc lv (.ref b :: st) ws := by
  obtain ⟨p, l, e, R, s, m, args, below, meth, c, Q, D, A⟩ := E
  obtain ⟨hx, hb, hml, hown, hts, hK, hA, hN, hR⟩ := X
  exact fun H locs ls hP hD hS h => va_slen hx hb h0.1 h0.2.1 h0.2.2 hS hdg (kk H locs ls hP hD hS h)
end VNEW
