/-! packed machine states: V says that from a frame (pc, locals, stack) and a world of cells the machine comes to its end; a row an instruction -/
def vNw : List Cond := [.methodLinkNest "QuadWorlds" 35 ⟨"QuadWorlds$Seeker", "<init>", "()V"⟩ "QuadWorlds", .fieldLinkNest "QuadWorlds" 200 "QuadWorlds$Seeker" "tryCount" "I" "QuadWorlds", .fieldLinkNest "QuadWorlds" 206 "QuadWorlds$Seeker" "isSpent" "Z" "QuadWorlds", .fieldLinkNest "QuadWorlds" 209 "QuadWorlds$Seeker" "foundCount" "I" "QuadWorlds", .fieldLinkNest "QuadWorlds" 261 "QuadWorlds$Seeker" "foundSet" "J" "QuadWorlds", .methodLinkNest "QuadWorlds" 42 ⟨"QuadWorlds$Matcher", "<init>", "()V"⟩ "QuadWorlds", .fieldLinkNest "QuadWorlds" 233 "QuadWorlds$Matcher" "images" "[I" "QuadWorlds", .fieldLinkNest "QuadWorlds" 225 "QuadWorlds$Matcher" "tryCount" "I" "QuadWorlds", .fieldLinkNest "QuadWorlds" 226 "QuadWorlds$Matcher" "isSpent" "Z" "QuadWorlds", .fieldLinkNest "QuadWorlds" 227 "QuadWorlds$Matcher" "isFound" "Z" "QuadWorlds", .methodLinkNest "QuadWorlds" 47 ⟨"QuadWorlds$World", "<init>", "()V"⟩ "QuadWorlds", .fieldLinkNest "QuadWorlds$Ranks" 18 "QuadWorlds$World" "sets" "[J" "QuadWorlds", .fieldLinkNest "QuadWorlds$Faults" 22 "QuadWorlds$World" "sets" "[J" "QuadWorlds", .fieldLinkNest "QuadWorlds$Matcher" 85 "QuadWorlds$World" "sets" "[J" "QuadWorlds", .fieldLinkNest "QuadWorlds$Maker" 62 "QuadWorlds$World" "sets" "[J" "QuadWorlds", .fieldLinkNest "QuadWorlds" 159 "QuadWorlds$World" "sets" "[J" "QuadWorlds", .fieldLinkNest "QuadWorlds$Matcher" 73 "QuadWorlds$World" "through" "[J" "QuadWorlds", .fieldLinkNest "QuadWorlds$Faults" 39 "QuadWorlds$World" "through" "[J" "QuadWorlds", .fieldLinkNest "QuadWorlds$Maker" 51 "QuadWorlds$World" "through" "[J" "QuadWorlds", .fieldLinkNest "QuadWorlds" 152 "QuadWorlds$World" "through" "[J" "QuadWorlds", .fieldLinkNest "QuadWorlds$Maker" 33 "QuadWorlds$World" "near" "[J" "QuadWorlds", .fieldLinkNest "QuadWorlds$Matcher" 62 "QuadWorlds$World" "near" "[J" "QuadWorlds", .fieldLinkNest "QuadWorlds" 187 "QuadWorlds$World" "near" "[J" "QuadWorlds", .fieldLinkNest "QuadWorlds" 63 "QuadWorlds$World" "there" "Z" "QuadWorlds", .fieldLinkNest "QuadWorlds" 75 "QuadWorlds$World" "kind" "I" "QuadWorlds", .fieldLinkNest "QuadWorlds" 156 "QuadWorlds$World" "tag" "I" "QuadWorlds", .fieldLinkNest "QuadWorlds$Ranks" 15 "QuadWorlds$World" "size" "I" "QuadWorlds", .fieldLinkNest "QuadWorlds$Matcher" 33 "QuadWorlds$World" "size" "I" "QuadWorlds", .fieldLinkNest "QuadWorlds$Maker" 23 "QuadWorlds$World" "size" "I" "QuadWorlds", .fieldLinkNest "QuadWorlds" 102 "QuadWorlds$World" "size" "I" "QuadWorlds", .fieldLinkNest "QuadWorlds$Faults" 36 "QuadWorlds$World" "size" "I" "QuadWorlds", .fieldLinkNest "QuadWorlds$Ranks" 9 "QuadWorlds$World" "lineCount" "I" "QuadWorlds", .fieldLinkNest "QuadWorlds$Matcher" 38 "QuadWorlds$World" "lineCount" "I" "QuadWorlds", .fieldLinkNest "QuadWorlds" 67 "QuadWorlds$World" "lineCount" "I" "QuadWorlds", .fieldLinkNest "QuadWorlds$Faults" 16 "QuadWorlds$World" "lineCount" "I" "QuadWorlds", .fieldLinkNest "QuadWorlds$Maker" 48 "QuadWorlds$World" "lineCount" "I" "QuadWorlds", .methodLinkNest "QuadWorlds$World" 38 ⟨"QuadWorlds", "has", "(JI)Z"⟩ "QuadWorlds", .methodLinkNest "QuadWorlds$Maker" 15 ⟨"QuadWorlds", "below", "(I)J"⟩ "QuadWorlds", .methodLinkNest "QuadWorlds$Faults" 42 ⟨"QuadWorlds", "has", "(JI)Z"⟩ "QuadWorlds", .methodLinkNest "QuadWorlds$World" 42 ⟨"QuadWorlds", "below", "(I)J"⟩ "QuadWorlds", .methodLinkNest "QuadWorlds$Maker" 65 ⟨"QuadWorlds", "has", "(JI)Z"⟩ "QuadWorlds", .methodLinkNest "QuadWorlds$Seeker" 21 ⟨"QuadWorlds", "below", "(I)J"⟩ "QuadWorlds", .methodLinkNest "QuadWorlds$Seeker" 51 ⟨"QuadWorlds", "leastOf", "(J)I"⟩ "QuadWorlds", .methodLinkNest "QuadWorlds$Seeker" 60 ⟨"QuadWorlds", "has", "(JI)Z"⟩ "QuadWorlds", .methodLinkNest "QuadWorlds$Ranks" 22 ⟨"QuadWorlds", "has", "(JI)Z"⟩ "QuadWorlds", .methodLinkNest "QuadWorlds$Matcher" 65 ⟨"QuadWorlds", "below", "(I)J"⟩ "QuadWorlds", .methodLinkNest "QuadWorlds$Matcher" 81 ⟨"QuadWorlds", "has", "(JI)Z"⟩ "QuadWorlds", .methodLinkNest "QuadWorlds$Matcher" 52 ⟨"QuadWorlds", "leastOf", "(J)I"⟩ "QuadWorlds"]
def vN (U : State) : Prop := ∀ w ∈ vNw, va_Nw w U
theorem vNw_k : ∀ w ∈ vNw, (∃ a i b n d h, w = .fieldLinkNest a i b n d h) ∨ (∃ a i x h, w = .methodLinkNest a i x h) := by
  intro w hw
  simp only [vNw, List.mem_cons, List.not_mem_nil, or_false] at hw
  rcases hw with rfl | rfl | rfl | rfl | rfl | rfl | rfl | rfl | rfl | rfl | rfl | rfl | rfl | rfl | rfl | rfl | rfl | rfl | rfl | rfl | rfl | rfl | rfl | rfl | rfl | rfl | rfl | rfl | rfl | rfl | rfl | rfl | rfl | rfl | rfl | rfl | rfl | rfl | rfl | rfl | rfl | rfl | rfl | rfl | rfl | rfl | rfl | rfl
  all_goals first | exact Or.inl ⟨_, _, _, _, _, _, rfl⟩ | exact Or.inr ⟨_, _, _, _, rfl⟩
theorem vN.warm {s U : State} (hW : s.WarmedH U.vm) (h : vN s) : vN U := fun w hw => by
  rcases vNw_k w hw with ⟨a, i, b, n, d, q, rfl⟩ | ⟨a, i, x, q, rfl⟩
  · exact va_Nw.warmF hW (h _ hw)
  · exact va_Nw.warmM hW (h _ hw)
theorem vN.same {u U : State} (hv : u.vm = U.vm) (h : vN u) : vN U := fun w hw => by
  rcases vNw_k w hw with ⟨a, i, b, n, d, q, rfl⟩ | ⟨a, i, x, q, rfl⟩
  · exact va_Nw.same rfl hv (h _ hw)
  · exact va_Nw.same rfl hv (h _ hw)
abbrev vE : Type := Program × Launch × Env × Room × State × MethodId × Array Value × List Frame × Method × Code × (State → Prop) × va_G × (Nat → Prop)
abbrev vl (E : vE) : Launch := E.2.1
abbrev vD (E : vE) : va_G := E.2.2.2.2.2.2.2.2.2.2.2.1
abbrev vT (T : Nat → ClassId) : List (ClassId × FieldType) := [(T 0, .int), (T 1, .long), (T 2, .object "QuadWorlds$World"), (T 3, .array .int)]
abbrev vI (T : Nat → ClassId) (a n : Nat) (f : Nat → Int32) : Nat × va_E := (a, .inl (T 0, n, .inl f))
abbrev vJ (T : Nat → ClassId) (a n : Nat) (f : Nat → Int64) : Nat × va_E := (a, .inl (T 1, n, .inr (.inl f)))
abbrev vR (T : Nat → ClassId) (k a n : Nat) (f : Nat → Option Nat) : Nat × va_E := (a, .inl (T k, n, .inr (.inr (.inr (.inr f)))))
abbrev vO (a ci : Nat) (fs : List Value) : Nat × va_E := (a, .inr (ci, fs))
def V (E : vE) (k n pc : Nat) (lv : List (Nat × Value)) (st : List Value) (ws : va_W) : Prop :=
  match E with
  | (p, l, e, R, s, m, args, below, meth, c, Q, D, A) => ∀ (H : Heap) (locs : List Loc) (ls : Array Slot), va_P D vwCl ws H → va_D A ws → va_S A s.heap H locs → lv_has ls c.maxLocals lv → W p l e R s m args below meth c H locs k n Q (F0 m pc ls st)
def vX (E : vE) (cc : ByteArray) (nL : Nat) (own : String) (Ts : List Cond) (tys : List (ClassId × FieldType)) (rm : Room) : Prop :=
  match E with
  | (p, _, _, R, s, m, args, _, _, c, _, D, A) => p.tables.exec = Jvm.exec ∧ c.code = cc ∧ c.maxLocals = nL ∧ s.vm.findClass own = some m.cls ∧ (∀ w ∈ Ts, w.before args s = true) ∧ va_K D vwCl tys s ∧ (∀ q, s.heap.size ≤ q → A q) ∧ vN s ∧ R = rm
/-- a boolean -/
def vz (v : Int32) : Prop := v = 0 ∨ v = 1
theorem vz_nar {v : Int32} (h : vz v) : narrow .boolean (.int v) = .int v := by rcases h with rfl | rfl <;> decide
theorem vz_fits {v : Int32} (h : vz v) : fits .boolean (.int v) = true := by rcases h with rfl | rfl <;> decide
section VV
variable {E : vE} {cc : ByteArray} {nL : Nat} {own : String} {Ts : List Cond} {tys : List (ClassId × FieldType)} {rm : Room} {k n pc : Nat} {lv lv' : List (Nat × Value)} {st : List Value} {ws : va_W}
/-- fewer or other locals and cells, by their places -/
theorem v_sub {lv' : List (Nat × Value)} {ws' : va_W} (is js : List Nat) (hl : lv_pick lv is = lv') (h1 : js.map (fun i => ws[i]?) = ws'.map some) (hn : va_nd js = true) (kk : V E k n pc lv' st ws') : V E k n pc lv st ws := by
  obtain ⟨p, l, e, R, s, m, args, below, meth, c, Q, D, A⟩ := E
  refine fun H locs ls hP hD hS h => kk H locs ls ?_ (hD.sub js hn h1) hS (lv_sub h is hl)
  intro i q hq
  have h2 : (js.map (fun i => ws[i]?))[i]? = some (some q) := by rw [h1, List.getElem?_map, hq]; rfl
  rw [List.getElem?_map] at h2
  cases hj : js[i]? with
  | none => rw [hj] at h2; cases h2
  | some j => rw [hj] at h2; exact hP j q (Option.some.inj h2)
theorem v_lv (is : List Nat) (hl : lv_pick lv is = lv') (kk : V E k n pc lv' st ws) : V E k n pc lv st ws := by
  obtain ⟨p, l, e, R, s, m, args, below, meth, c, Q, D, A⟩ := E
  exact fun H locs ls hP hD hS h => kk H locs ls hP hD hS (lv_sub h is hl)

theorem v_topi {x : Int32} (kk : ∀ y : Int32, y = x → V E k n pc lv (.int y :: st) ws) : V E k n pc lv (.int x :: st) ws := kk x rfl
theorem v_topl {x : Int64} (kk : ∀ y : Int64, y = x → V E k n pc lv (.long y :: st) ws) : V E k n pc lv (.long x :: st) ws := kk x rfl
theorem v_ws {ws' : va_W} (js : List Nat) (h1 : js.map (fun i => ws[i]?) = ws'.map some) (hn : va_nd js = true) (kk : V E k n pc lv st ws') : V E k n pc lv st ws := by
  obtain ⟨p, l, e, R, s, m, args, below, meth, c, Q, D, A⟩ := E
  refine fun H locs ls hP hD hS h => kk H locs ls ?_ (hD.sub js hn h1) hS h
  intro i q hq
  have h2 : (js.map (fun i => ws[i]?))[i]? = some (some q) := by rw [h1, List.getElem?_map, hq]; rfl
  rw [List.getElem?_map] at h2
  cases hj : js[i]? with
  | none => rw [hj] at h2; cases h2
  | some j => rw [hj] at h2; exact hP j q (Option.some.inj h2)
theorem v_tsOut (X : vX E cc nL own Ts tys rm) {dflt lo hi : Int} {offs : Array Int} {len : Nat} {x : Int32} {tgt : Nat} (hdg : decode cc pc = .ok (.tableswitch dflt lo hi offs, len)) (h9 : x.toInt < lo ∨ hi < x.toInt) (ht : (pc : Int) + dflt = (tgt : Int)) (kk : V E k n tgt lv st ws) : V E k n pc lv (.int x :: st) ws := by
  obtain ⟨p, l, e, R, s, m, args, below, meth, c, Q, D, A⟩ := E
  obtain ⟨hx, hb, hml, hown, hts, hK, hA, hN, hR⟩ := X
  exact fun H locs ls hP hD hS h => lv_tableOut hx hb hdg h9 ht (kk H locs ls hP hD hS h)
theorem v_tsIn (X : vX E cc nL own Ts tys rm) {dflt lo hi : Int} {offs : Array Int} {len : Nat} {x : Int32} {off : Int} {tgt : Nat} (hdg : decode cc pc = .ok (.tableswitch dflt lo hi offs, len)) (h1 : ¬ x.toInt < lo) (h2 : ¬ hi < x.toInt) (ho : offs[(x.toInt - lo).toNat]? = some off) (ht : (pc : Int) + off = (tgt : Int)) (kk : V E k n tgt lv st ws) : V E k n pc lv (.int x :: st) ws := by
  obtain ⟨p, l, e, R, s, m, args, below, meth, c, Q, D, A⟩ := E
  obtain ⟨hx, hb, hml, hown, hts, hK, hA, hN, hR⟩ := X
  exact fun H locs ls hP hD hS h => lv_tableIn hx hb hdg h1 h2 ho ht (kk H locs ls hP hD hS h)

theorem v_iconst (X : vX E cc nL own Ts tys rm) {z : Int} {v : Int32} (hdg : decode cc pc = .ok (.iconst z, 1)) (hv : Int32.ofInt z = v) (kk : V E k n (pc + 1) lv (.int v :: st) ws) : V E k n pc lv st ws := by
  obtain ⟨p, l, e, R, s, m, args, below, meth, c, Q, D, A⟩ := E
  obtain ⟨hx, hb, hml, hown, hts, hK, hA, hN, hR⟩ := X
  exact fun H locs ls hP hD hS h => lv_iconst hx hb hdg hv (kk H locs ls hP hD hS h)
theorem v_bipush (X : vX E cc nL own Ts tys rm) {z : Int} {v : Int32} (hdg : decode cc pc = .ok (.bipush z, 2)) (hv : (Int8.ofInt z).toInt32 = v) (kk : V E k n (pc + 2) lv (.int v :: st) ws) : V E k n pc lv st ws := by
  obtain ⟨p, l, e, R, s, m, args, below, meth, c, Q, D, A⟩ := E
  obtain ⟨hx, hb, hml, hown, hts, hK, hA, hN, hR⟩ := X
  exact fun H locs ls hP hD hS h => lv_bipush hx hb hdg hv (kk H locs ls hP hD hS h)
theorem v_sipush (X : vX E cc nL own Ts tys rm) {z : Int} {v : Int32} (hdg : decode cc pc = .ok (.sipush z, 3)) (hv : (Int16.ofInt z).toInt32 = v) (kk : V E k n (pc + 3) lv (.int v :: st) ws) : V E k n pc lv st ws := by
  obtain ⟨p, l, e, R, s, m, args, below, meth, c, Q, D, A⟩ := E
  obtain ⟨hx, hb, hml, hown, hts, hK, hA, hN, hR⟩ := X
  exact fun H locs ls hP hD hS h => lv_sipush hx hb hdg hv (kk H locs ls hP hD hS h)
theorem v_lconst (X : vX E cc nL own Ts tys rm) {z : Fin 2} {v : Int64} (hdg : decode cc pc = .ok (.lconst z, 1)) (hv : Int64.ofNat (z : Nat) = v) (kk : V E k n (pc + 1) lv (.long v :: st) ws) : V E k n pc lv st ws := by
  obtain ⟨p, l, e, R, s, m, args, below, meth, c, Q, D, A⟩ := E
  obtain ⟨hx, hb, hml, hown, hts, hK, hA, hN, hR⟩ := X
  exact fun H locs ls hP hD hS h => lv_lconst hx hb hdg hv (kk H locs ls hP hD hS h)
theorem v_ldc (X : vX E cc nL own Ts tys rm) {ix : Nat} {v : Int32} (hc : Cond.constant own ix v ∈ Ts) (hdg : decode cc pc = .ok (.ldc ix, 2)) (kk : V E k n (pc + 2) lv (.int v :: st) ws) : V E k n pc lv st ws := by
  obtain ⟨p, l, e, R, s, m, args, below, meth, c, Q, D, A⟩ := E
  obtain ⟨hx, hb, hml, hown, hts, hK, hA, hN, hR⟩ := X
  exact fun H locs ls hP hD hS h => lv_ldc hx hb hown (hts _ hc) hdg (kk H locs ls hP hD hS h)
theorem v_ldcw (X : vX E cc nL own Ts tys rm) {ix : Nat} {v : Int32} (hc : Cond.constant own ix v ∈ Ts) (hdg : decode cc pc = .ok (.ldc_w ix, 3)) (kk : V E k n (pc + 3) lv (.int v :: st) ws) : V E k n pc lv st ws := by
  obtain ⟨p, l, e, R, s, m, args, below, meth, c, Q, D, A⟩ := E
  obtain ⟨hx, hb, hml, hown, hts, hK, hA, hN, hR⟩ := X
  exact fun H locs ls hP hD hS h => lv_ldcw hx hb hown (hts _ hc) hdg (kk H locs ls hP hD hS h)
theorem v_ldc2 (X : vX E cc nL own Ts tys rm) {ix : Nat} {v : Int64} (hc : Cond.constantLong own ix v ∈ Ts) (hdg : decode cc pc = .ok (.ldc2_w ix, 3)) (kk : V E k n (pc + 3) lv (.long v :: st) ws) : V E k n pc lv st ws := by
  obtain ⟨p, l, e, R, s, m, args, below, meth, c, Q, D, A⟩ := E
  obtain ⟨hx, hb, hml, hown, hts, hK, hA, hN, hR⟩ := X
  exact fun H locs ls hP hD hS h => lv_ldc2 hx hb hown (hts _ hc) hdg (kk H locs ls hP hD hS h)
theorem v_iload_n (X : vX E cc nL own Ts tys rm) {z : Fin 4} {i : Nat} {x : Int32} (j : Nat) (hdg : decode cc pc = .ok (.iload_n z, 1)) (hi : (z : Nat) = i) (hl : lv[j]? = some (i, .int x)) (kk : V E k n (pc + 1) lv (.int x :: st) ws) : V E k n pc lv st ws := by
  obtain ⟨p, l, e, R, s, m, args, below, meth, c, Q, D, A⟩ := E
  obtain ⟨hx, hb, hml, hown, hts, hK, hA, hN, hR⟩ := X
  exact fun H locs ls hP hD hS h => lv_iload_n hx hb hdg hi (lv_at h j hl) (kk H locs ls hP hD hS h)
theorem v_iload (X : vX E cc nL own Ts tys rm) {i : Nat} {x : Int32} (j : Nat) (hdg : decode cc pc = .ok (.iload i, 2)) (hl : lv[j]? = some (i, .int x)) (kk : V E k n (pc + 2) lv (.int x :: st) ws) : V E k n pc lv st ws := by
  obtain ⟨p, l, e, R, s, m, args, below, meth, c, Q, D, A⟩ := E
  obtain ⟨hx, hb, hml, hown, hts, hK, hA, hN, hR⟩ := X
  exact fun H locs ls hP hD hS h => lv_iload hx hb hdg (lv_at h j hl) (kk H locs ls hP hD hS h)
theorem v_istore_n (X : vX E cc nL own Ts tys rm) {z : Fin 4} {i : Nat} {x : Int32} (hdg : decode cc pc = .ok (.istore_n z, 1)) (hi : (z : Nat) = i) (hn : i < nL) (hl : (i, Value.int x) :: lv.filter (fun q => !(q.1 == i) && !(q.1 + 1 == i && q.2.category == 2)) = lv') (kk : V E k n (pc + 1) lv' st ws) : V E k n pc lv (.int x :: st) ws := by
  obtain ⟨p, l, e, R, s, m, args, below, meth, c, Q, D, A⟩ := E
  obtain ⟨hx, hb, hml, hown, hts, hK, hA, hN, hR⟩ := X
  exact fun H locs ls hP hD hS h => lv_istore_n hx hb hdg hi h (by rw [hml]; exact hn) hl (fun ls h => (kk H locs ls hP hD hS h))
theorem v_istore (X : vX E cc nL own Ts tys rm) {i : Nat} {x : Int32} (hdg : decode cc pc = .ok (.istore i, 2)) (hn : i < nL) (hl : (i, Value.int x) :: lv.filter (fun q => !(q.1 == i) && !(q.1 + 1 == i && q.2.category == 2)) = lv') (kk : V E k n (pc + 2) lv' st ws) : V E k n pc lv (.int x :: st) ws := by
  obtain ⟨p, l, e, R, s, m, args, below, meth, c, Q, D, A⟩ := E
  obtain ⟨hx, hb, hml, hown, hts, hK, hA, hN, hR⟩ := X
  exact fun H locs ls hP hD hS h => lv_istore hx hb hdg h (by rw [hml]; exact hn) hl (fun ls h => (kk H locs ls hP hD hS h))
theorem v_lload_n (X : vX E cc nL own Ts tys rm) {z : Fin 4} {i : Nat} {x : Int64} (j : Nat) (hdg : decode cc pc = .ok (.lload_n z, 1)) (hi : (z : Nat) = i) (hl : lv[j]? = some (i, .long x)) (kk : V E k n (pc + 1) lv (.long x :: st) ws) : V E k n pc lv st ws := by
  obtain ⟨p, l, e, R, s, m, args, below, meth, c, Q, D, A⟩ := E
  obtain ⟨hx, hb, hml, hown, hts, hK, hA, hN, hR⟩ := X
  exact fun H locs ls hP hD hS h => lv_lload_n hx hb hdg hi (lv_at h j hl) (kk H locs ls hP hD hS h)
theorem v_lload (X : vX E cc nL own Ts tys rm) {i : Nat} {x : Int64} (j : Nat) (hdg : decode cc pc = .ok (.lload i, 2)) (hl : lv[j]? = some (i, .long x)) (kk : V E k n (pc + 2) lv (.long x :: st) ws) : V E k n pc lv st ws := by
  obtain ⟨p, l, e, R, s, m, args, below, meth, c, Q, D, A⟩ := E
  obtain ⟨hx, hb, hml, hown, hts, hK, hA, hN, hR⟩ := X
  exact fun H locs ls hP hD hS h => lv_lload hx hb hdg (lv_at h j hl) (kk H locs ls hP hD hS h)
theorem v_lstore_n (X : vX E cc nL own Ts tys rm) {z : Fin 4} {i : Nat} {x : Int64} (hdg : decode cc pc = .ok (.lstore_n z, 1)) (hi : (z : Nat) = i) (hn : i + 1 < nL) (hl : (i, Value.long x) :: lv.filter (fun q => !(q.1 == i) && (!(q.1 == i + 1) && !(q.1 + 1 == i && q.2.category == 2))) = lv') (kk : V E k n (pc + 1) lv' st ws) : V E k n pc lv (.long x :: st) ws := by
  obtain ⟨p, l, e, R, s, m, args, below, meth, c, Q, D, A⟩ := E
  obtain ⟨hx, hb, hml, hown, hts, hK, hA, hN, hR⟩ := X
  exact fun H locs ls hP hD hS h => lv_lstore_n hx hb hdg hi h (by rw [hml]; exact hn) hl (fun ls h => (kk H locs ls hP hD hS h))
theorem v_lstore (X : vX E cc nL own Ts tys rm) {i : Nat} {x : Int64} (hdg : decode cc pc = .ok (.lstore i, 2)) (hn : i + 1 < nL) (hl : (i, Value.long x) :: lv.filter (fun q => !(q.1 == i) && (!(q.1 == i + 1) && !(q.1 + 1 == i && q.2.category == 2))) = lv') (kk : V E k n (pc + 2) lv' st ws) : V E k n pc lv (.long x :: st) ws := by
  obtain ⟨p, l, e, R, s, m, args, below, meth, c, Q, D, A⟩ := E
  obtain ⟨hx, hb, hml, hown, hts, hK, hA, hN, hR⟩ := X
  exact fun H locs ls hP hD hS h => lv_lstore hx hb hdg h (by rw [hml]; exact hn) hl (fun ls h => (kk H locs ls hP hD hS h))
theorem v_aload_n (X : vX E cc nL own Ts tys rm) {z : Fin 4} {i : Nat} {x : Nat} (j : Nat) (hdg : decode cc pc = .ok (.aload_n z, 1)) (hi : (z : Nat) = i) (hl : lv[j]? = some (i, .ref x)) (kk : V E k n (pc + 1) lv (.ref x :: st) ws) : V E k n pc lv st ws := by
  obtain ⟨p, l, e, R, s, m, args, below, meth, c, Q, D, A⟩ := E
  obtain ⟨hx, hb, hml, hown, hts, hK, hA, hN, hR⟩ := X
  exact fun H locs ls hP hD hS h => lv_aload_n hx hb hdg hi (lv_at h j hl) (kk H locs ls hP hD hS h)
theorem v_aload (X : vX E cc nL own Ts tys rm) {i : Nat} {x : Nat} (j : Nat) (hdg : decode cc pc = .ok (.aload i, 2)) (hl : lv[j]? = some (i, .ref x)) (kk : V E k n (pc + 2) lv (.ref x :: st) ws) : V E k n pc lv st ws := by
  obtain ⟨p, l, e, R, s, m, args, below, meth, c, Q, D, A⟩ := E
  obtain ⟨hx, hb, hml, hown, hts, hK, hA, hN, hR⟩ := X
  exact fun H locs ls hP hD hS h => lv_aload hx hb hdg (lv_at h j hl) (kk H locs ls hP hD hS h)
theorem v_astore_n (X : vX E cc nL own Ts tys rm) {z : Fin 4} {i : Nat} {x : Nat} (hdg : decode cc pc = .ok (.astore_n z, 1)) (hi : (z : Nat) = i) (hn : i < nL) (hl : (i, Value.ref x) :: lv.filter (fun q => !(q.1 == i) && !(q.1 + 1 == i && q.2.category == 2)) = lv') (kk : V E k n (pc + 1) lv' st ws) : V E k n pc lv (.ref x :: st) ws := by
  obtain ⟨p, l, e, R, s, m, args, below, meth, c, Q, D, A⟩ := E
  obtain ⟨hx, hb, hml, hown, hts, hK, hA, hN, hR⟩ := X
  exact fun H locs ls hP hD hS h => lv_astore_n hx hb hdg hi h (by rw [hml]; exact hn) hl (fun ls h => (kk H locs ls hP hD hS h))
theorem v_astore (X : vX E cc nL own Ts tys rm) {i : Nat} {x : Nat} (hdg : decode cc pc = .ok (.astore i, 2)) (hn : i < nL) (hl : (i, Value.ref x) :: lv.filter (fun q => !(q.1 == i) && !(q.1 + 1 == i && q.2.category == 2)) = lv') (kk : V E k n (pc + 2) lv' st ws) : V E k n pc lv (.ref x :: st) ws := by
  obtain ⟨p, l, e, R, s, m, args, below, meth, c, Q, D, A⟩ := E
  obtain ⟨hx, hb, hml, hown, hts, hK, hA, hN, hR⟩ := X
  exact fun H locs ls hP hD hS h => lv_astore hx hb hdg h (by rw [hml]; exact hn) hl (fun ls h => (kk H locs ls hP hD hS h))
theorem v_iinc (X : vX E cc nL own Ts tys rm) {i : Nat} {z : Int} {x v : Int32} (j : Nat) (hdg : decode cc pc = .ok (.iinc i z, 3)) (hj : lv[j]? = some (i, .int x)) (hv : x + Int32.ofInt z = v) (hn : i < nL) (hl : (i, Value.int v) :: lv.filter (fun q => !(q.1 == i) && !(q.1 + 1 == i && q.2.category == 2)) = lv') (kk : V E k n (pc + 3) lv' st ws) : V E k n pc lv st ws := by
  obtain ⟨p, l, e, R, s, m, args, below, meth, c, Q, D, A⟩ := E
  obtain ⟨hx, hb, hml, hown, hts, hK, hA, hN, hR⟩ := X
  exact fun H locs ls hP hD hS h => lv_iinc (k := j) hx hb hdg h hj hv (by rw [hml]; exact hn) hl (fun ls h => (kk H locs ls hP hD hS h))
theorem v_iadd (X : vX E cc nL own Ts tys rm) {x y : Int32} (hdg : decode cc pc = .ok (.iadd, 1)) (kk : V E k n (pc + 1) lv (.int (x + y) :: st) ws) : V E k n pc lv (.int y :: .int x :: st) ws := by
  obtain ⟨p, l, e, R, s, m, args, below, meth, c, Q, D, A⟩ := E
  obtain ⟨hx, hb, hml, hown, hts, hK, hA, hN, hR⟩ := X
  exact fun H locs ls hP hD hS h => lv_iadd hx hb hdg (kk H locs ls hP hD hS h)
theorem v_isub (X : vX E cc nL own Ts tys rm) {x y : Int32} (hdg : decode cc pc = .ok (.isub, 1)) (kk : V E k n (pc + 1) lv (.int (x - y) :: st) ws) : V E k n pc lv (.int y :: .int x :: st) ws := by
  obtain ⟨p, l, e, R, s, m, args, below, meth, c, Q, D, A⟩ := E
  obtain ⟨hx, hb, hml, hown, hts, hK, hA, hN, hR⟩ := X
  exact fun H locs ls hP hD hS h => lv_isub hx hb hdg (kk H locs ls hP hD hS h)
theorem v_imul (X : vX E cc nL own Ts tys rm) {x y : Int32} (hdg : decode cc pc = .ok (.imul, 1)) (kk : V E k n (pc + 1) lv (.int (x * y) :: st) ws) : V E k n pc lv (.int y :: .int x :: st) ws := by
  obtain ⟨p, l, e, R, s, m, args, below, meth, c, Q, D, A⟩ := E
  obtain ⟨hx, hb, hml, hown, hts, hK, hA, hN, hR⟩ := X
  exact fun H locs ls hP hD hS h => lv_imul hx hb hdg (kk H locs ls hP hD hS h)
theorem v_iand (X : vX E cc nL own Ts tys rm) {x y : Int32} (hdg : decode cc pc = .ok (.iand, 1)) (kk : V E k n (pc + 1) lv (.int (x &&& y) :: st) ws) : V E k n pc lv (.int y :: .int x :: st) ws := by
  obtain ⟨p, l, e, R, s, m, args, below, meth, c, Q, D, A⟩ := E
  obtain ⟨hx, hb, hml, hown, hts, hK, hA, hN, hR⟩ := X
  exact fun H locs ls hP hD hS h => lv_iand hx hb hdg (kk H locs ls hP hD hS h)
theorem v_ixor (X : vX E cc nL own Ts tys rm) {x y : Int32} (hdg : decode cc pc = .ok (.ixor, 1)) (kk : V E k n (pc + 1) lv (.int (x ^^^ y) :: st) ws) : V E k n pc lv (.int y :: .int x :: st) ws := by
  obtain ⟨p, l, e, R, s, m, args, below, meth, c, Q, D, A⟩ := E
  obtain ⟨hx, hb, hml, hown, hts, hK, hA, hN, hR⟩ := X
  exact fun H locs ls hP hD hS h => lv_ixor hx hb hdg (kk H locs ls hP hD hS h)
theorem v_ior (X : vX E cc nL own Ts tys rm) {x y : Int32} (hdg : decode cc pc = .ok (.ior, 1)) (kk : V E k n (pc + 1) lv (.int (x ||| y) :: st) ws) : V E k n pc lv (.int y :: .int x :: st) ws := by
  obtain ⟨p, l, e, R, s, m, args, below, meth, c, Q, D, A⟩ := E
  obtain ⟨hx, hb, hml, hown, hts, hK, hA, hN, hR⟩ := X
  exact fun H locs ls hP hD hS h => lv_ior hx hb hdg (kk H locs ls hP hD hS h)
theorem v_ladd (X : vX E cc nL own Ts tys rm) {x y : Int64} (hdg : decode cc pc = .ok (.ladd, 1)) (kk : V E k n (pc + 1) lv (.long (x + y) :: st) ws) : V E k n pc lv (.long y :: .long x :: st) ws := by
  obtain ⟨p, l, e, R, s, m, args, below, meth, c, Q, D, A⟩ := E
  obtain ⟨hx, hb, hml, hown, hts, hK, hA, hN, hR⟩ := X
  exact fun H locs ls hP hD hS h => lv_ladd hx hb hdg (kk H locs ls hP hD hS h)
theorem v_lsub (X : vX E cc nL own Ts tys rm) {x y : Int64} (hdg : decode cc pc = .ok (.lsub, 1)) (kk : V E k n (pc + 1) lv (.long (x - y) :: st) ws) : V E k n pc lv (.long y :: .long x :: st) ws := by
  obtain ⟨p, l, e, R, s, m, args, below, meth, c, Q, D, A⟩ := E
  obtain ⟨hx, hb, hml, hown, hts, hK, hA, hN, hR⟩ := X
  exact fun H locs ls hP hD hS h => lv_lsub hx hb hdg (kk H locs ls hP hD hS h)
theorem v_lmul (X : vX E cc nL own Ts tys rm) {x y : Int64} (hdg : decode cc pc = .ok (.lmul, 1)) (kk : V E k n (pc + 1) lv (.long (x * y) :: st) ws) : V E k n pc lv (.long y :: .long x :: st) ws := by
  obtain ⟨p, l, e, R, s, m, args, below, meth, c, Q, D, A⟩ := E
  obtain ⟨hx, hb, hml, hown, hts, hK, hA, hN, hR⟩ := X
  exact fun H locs ls hP hD hS h => lv_lmul hx hb hdg (kk H locs ls hP hD hS h)
theorem v_land (X : vX E cc nL own Ts tys rm) {x y : Int64} (hdg : decode cc pc = .ok (.land, 1)) (kk : V E k n (pc + 1) lv (.long (x &&& y) :: st) ws) : V E k n pc lv (.long y :: .long x :: st) ws := by
  obtain ⟨p, l, e, R, s, m, args, below, meth, c, Q, D, A⟩ := E
  obtain ⟨hx, hb, hml, hown, hts, hK, hA, hN, hR⟩ := X
  exact fun H locs ls hP hD hS h => lv_land hx hb hdg (kk H locs ls hP hD hS h)
theorem v_lxor (X : vX E cc nL own Ts tys rm) {x y : Int64} (hdg : decode cc pc = .ok (.lxor, 1)) (kk : V E k n (pc + 1) lv (.long (x ^^^ y) :: st) ws) : V E k n pc lv (.long y :: .long x :: st) ws := by
  obtain ⟨p, l, e, R, s, m, args, below, meth, c, Q, D, A⟩ := E
  obtain ⟨hx, hb, hml, hown, hts, hK, hA, hN, hR⟩ := X
  exact fun H locs ls hP hD hS h => lv_lxor hx hb hdg (kk H locs ls hP hD hS h)
theorem v_lor (X : vX E cc nL own Ts tys rm) {x y : Int64} (hdg : decode cc pc = .ok (.lor, 1)) (kk : V E k n (pc + 1) lv (.long (x ||| y) :: st) ws) : V E k n pc lv (.long y :: .long x :: st) ws := by
  obtain ⟨p, l, e, R, s, m, args, below, meth, c, Q, D, A⟩ := E
  obtain ⟨hx, hb, hml, hown, hts, hK, hA, hN, hR⟩ := X
  exact fun H locs ls hP hD hS h => lv_lor hx hb hdg (kk H locs ls hP hD hS h)
theorem v_idiv (X : vX E cc nL own Ts tys rm) {x y : Int32} (hdg : decode cc pc = .ok (.idiv, 1)) (hne : ¬ y = 0) (kk : V E k n (pc + 1) lv (.int (x / y) :: st) ws) : V E k n pc lv (.int y :: .int x :: st) ws := by
  obtain ⟨p, l, e, R, s, m, args, below, meth, c, Q, D, A⟩ := E
  obtain ⟨hx, hb, hml, hown, hts, hK, hA, hN, hR⟩ := X
  exact fun H locs ls hP hD hS h => lv_idiv hx hb hdg hne (kk H locs ls hP hD hS h)
/-- the remainder, as Java has it -/
def vrem (x y : Int32) : Int32 := x - x / y * y
theorem v_irem (X : vX E cc nL own Ts tys rm) {x y : Int32} (hdg : decode cc pc = .ok (.irem, 1)) (hne : ¬ y = 0) (kk : V E k n (pc + 1) lv (.int (vrem x y) :: st) ws) : V E k n pc lv (.int y :: .int x :: st) ws := by
  obtain ⟨p, l, e, R, s, m, args, below, meth, c, Q, D, A⟩ := E
  obtain ⟨hx, hb, hml, hown, hts, hK, hA, hN, hR⟩ := X
  exact fun H locs ls hP hD hS h => lv_irem hx hb hdg hne (kk H locs ls hP hD hS h)
theorem v_lneg (X : vX E cc nL own Ts tys rm) {x : Int64} (hdg : decode cc pc = .ok (.lneg, 1)) (kk : V E k n (pc + 1) lv (.long (-x) :: st) ws) : V E k n pc lv (.long x :: st) ws := by
  obtain ⟨p, l, e, R, s, m, args, below, meth, c, Q, D, A⟩ := E
  obtain ⟨hx, hb, hml, hown, hts, hK, hA, hN, hR⟩ := X
  exact fun H locs ls hP hD hS h => lv_lneg hx hb hdg (kk H locs ls hP hD hS h)
theorem v_i2l (X : vX E cc nL own Ts tys rm) {x : Int32} (hdg : decode cc pc = .ok (.i2l, 1)) (kk : V E k n (pc + 1) lv (.long x.toInt64 :: st) ws) : V E k n pc lv (.int x :: st) ws := by
  obtain ⟨p, l, e, R, s, m, args, below, meth, c, Q, D, A⟩ := E
  obtain ⟨hx, hb, hml, hown, hts, hK, hA, hN, hR⟩ := X
  exact fun H locs ls hP hD hS h => lv_i2l hx hb hdg rfl (kk H locs ls hP hD hS h)
theorem v_l2i (X : vX E cc nL own Ts tys rm) {x : Int64} (hdg : decode cc pc = .ok (.l2i, 1)) (kk : V E k n (pc + 1) lv (.int x.toInt32 :: st) ws) : V E k n pc lv (.long x :: st) ws := by
  obtain ⟨p, l, e, R, s, m, args, below, meth, c, Q, D, A⟩ := E
  obtain ⟨hx, hb, hml, hown, hts, hK, hA, hN, hR⟩ := X
  exact fun H locs ls hP hD hS h => lv_l2i hx hb hdg rfl (kk H locs ls hP hD hS h)
/-- shifts of longs -/
def vshl (x : Int64) (y : Int32) : Int64 := x <<< (y.toInt64 &&& 63)
def vshr (x : Int64) (y : Int32) : Int64 := x >>> (y.toInt64 &&& 63)
def vushr (x : Int64) (y : Int32) : Int64 := (x.toUInt64 >>> (y.toInt64.toUInt64 &&& Int64.toUInt64 63)).toInt64
theorem v_lshl (X : vX E cc nL own Ts tys rm) {x : Int64} {y : Int32} (hdg : decode cc pc = .ok (.lshl, 1)) (kk : V E k n (pc + 1) lv (.long (vshl x y) :: st) ws) : V E k n pc lv (.int y :: .long x :: st) ws := by
  obtain ⟨p, l, e, R, s, m, args, below, meth, c, Q, D, A⟩ := E
  obtain ⟨hx, hb, hml, hown, hts, hK, hA, hN, hR⟩ := X
  exact fun H locs ls hP hD hS h => lv_lshl hx hb hdg rfl (kk H locs ls hP hD hS h)
theorem v_lshr (X : vX E cc nL own Ts tys rm) {x : Int64} {y : Int32} (hdg : decode cc pc = .ok (.lshr, 1)) (kk : V E k n (pc + 1) lv (.long (vshr x y) :: st) ws) : V E k n pc lv (.int y :: .long x :: st) ws := by
  obtain ⟨p, l, e, R, s, m, args, below, meth, c, Q, D, A⟩ := E
  obtain ⟨hx, hb, hml, hown, hts, hK, hA, hN, hR⟩ := X
  exact fun H locs ls hP hD hS h => lv_lshr hx hb hdg rfl (kk H locs ls hP hD hS h)
theorem v_lushr (X : vX E cc nL own Ts tys rm) {x : Int64} {y : Int32} (hdg : decode cc pc = .ok (.lushr, 1)) (kk : V E k n (pc + 1) lv (.long (vushr x y) :: st) ws) : V E k n pc lv (.int y :: .long x :: st) ws := by
  obtain ⟨p, l, e, R, s, m, args, below, meth, c, Q, D, A⟩ := E
  obtain ⟨hx, hb, hml, hown, hts, hK, hA, hN, hR⟩ := X
  exact fun H locs ls hP hD hS h => lv_lushr hx hb hdg rfl (kk H locs ls hP hD hS h)
theorem v_lcmp (X : vX E cc nL own Ts tys rm) {x y : Int64} (hdg : decode cc pc = .ok (.lcmp, 1)) (kk : V E k n (pc + 1) lv (.int (lg_cmp x y) :: st) ws) : V E k n pc lv (.long y :: .long x :: st) ws := by
  obtain ⟨p, l, e, R, s, m, args, below, meth, c, Q, D, A⟩ := E
  obtain ⟨hx, hb, hml, hown, hts, hK, hA, hN, hR⟩ := X
  exact fun H locs ls hP hD hS h => W.lcmp hx hb hdg (kk H locs ls hP hD hS h)
theorem v_dup (X : vX E cc nL own Ts tys rm) {x : Value} (hdg : decode cc pc = .ok (.dup, 1)) (hc : x.category = 1) (kk : V E k n (pc + 1) lv (x :: x :: st) ws) : V E k n pc lv (x :: st) ws := by
  obtain ⟨p, l, e, R, s, m, args, below, meth, c, Q, D, A⟩ := E
  obtain ⟨hx, hb, hml, hown, hts, hK, hA, hN, hR⟩ := X
  exact fun H locs ls hP hD hS h => lv_dup hx hb hdg hc (kk H locs ls hP hD hS h)
theorem v_pop (X : vX E cc nL own Ts tys rm) {x : Value} (hdg : decode cc pc = .ok (.pop, 1)) (hc : x.category = 1) (kk : V E k n (pc + 1) lv st ws) : V E k n pc lv (x :: st) ws := by
  obtain ⟨p, l, e, R, s, m, args, below, meth, c, Q, D, A⟩ := E
  obtain ⟨hx, hb, hml, hown, hts, hK, hA, hN, hR⟩ := X
  exact fun H locs ls hP hD hS h => lv_pop hx hb hdg hc (kk H locs ls hP hD hS h)
theorem v_dup2_11 (X : vX E cc nL own Ts tys rm) {x y : Value} (hdg : decode cc pc = .ok (.dup2, 1)) (h1 : x.category = 1) (h2 : y.category = 1) (kk : V E k n (pc + 1) lv (x :: y :: x :: y :: st) ws) : V E k n pc lv (x :: y :: st) ws := by
  obtain ⟨p, l, e, R, s, m, args, below, meth, c, Q, D, A⟩ := E
  obtain ⟨hx, hb, hml, hown, hts, hK, hA, hN, hR⟩ := X
  exact fun H locs ls hP hD hS h => lv_dup2_11 hx hb hdg h1 h2 (kk H locs ls hP hD hS h)
theorem v_dup2_2 (X : vX E cc nL own Ts tys rm) {x : Value} (hdg : decode cc pc = .ok (.dup2, 1)) (h1 : x.category = 2) (kk : V E k n (pc + 1) lv (x :: x :: st) ws) : V E k n pc lv (x :: st) ws := by
  obtain ⟨p, l, e, R, s, m, args, below, meth, c, Q, D, A⟩ := E
  obtain ⟨hx, hb, hml, hown, hts, hK, hA, hN, hR⟩ := X
  exact fun H locs ls hP hD hS h => lv_dup2_2 hx hb hdg h1 (kk H locs ls hP hD hS h)
theorem v_goto (X : vX E cc nL own Ts tys rm) {off : Int} {tgt : Nat} (hdg : decode cc pc = .ok (.goto off, 3)) (ht : (pc : Int) + off = (tgt : Int)) (kk : V E k n tgt lv st ws) : V E k n pc lv st ws := by
  obtain ⟨p, l, e, R, s, m, args, below, meth, c, Q, D, A⟩ := E
  obtain ⟨hx, hb, hml, hown, hts, hK, hA, hN, hR⟩ := X
  exact fun H locs ls hP hD hS h => lv_goto hx hb hdg ht (kk H locs ls hP hD hS h)
theorem v_if_eq (X : vX E cc nL own Ts tys rm) {x : Int32} {off : Int} {tgt : Nat} (hdg : decode cc pc = .ok (.ifCond .eq off, 3)) (ht : (pc : Int) + off = (tgt : Int)) (kt : x = 0 → V E k n tgt lv st ws) (kf : ¬ x = 0 → V E k n (pc + 3) lv st ws) : V E k n pc lv (.int x :: st) ws := by
  obtain ⟨p, l, e, R, s, m, args, below, meth, c, Q, D, A⟩ := E
  obtain ⟨hx, hb, hml, hown, hts, hK, hA, hN, hR⟩ := X
  exact fun H locs ls hP hD hS h => lv_if_eq hx hb hdg ht (fun q => kt q H locs ls hP hD hS h) (fun q => kf q H locs ls hP hD hS h)
theorem v_if_ne (X : vX E cc nL own Ts tys rm) {x : Int32} {off : Int} {tgt : Nat} (hdg : decode cc pc = .ok (.ifCond .ne off, 3)) (ht : (pc : Int) + off = (tgt : Int)) (kt : ¬ x = 0 → V E k n tgt lv st ws) (kf : x = 0 → V E k n (pc + 3) lv st ws) : V E k n pc lv (.int x :: st) ws := by
  obtain ⟨p, l, e, R, s, m, args, below, meth, c, Q, D, A⟩ := E
  obtain ⟨hx, hb, hml, hown, hts, hK, hA, hN, hR⟩ := X
  exact fun H locs ls hP hD hS h => lv_if_ne hx hb hdg ht (fun q => kt q H locs ls hP hD hS h) (fun q => kf q H locs ls hP hD hS h)
theorem v_if_lt (X : vX E cc nL own Ts tys rm) {x : Int32} {off : Int} {tgt : Nat} (hdg : decode cc pc = .ok (.ifCond .lt off, 3)) (ht : (pc : Int) + off = (tgt : Int)) (kt : x < 0 → V E k n tgt lv st ws) (kf : ¬ x < 0 → V E k n (pc + 3) lv st ws) : V E k n pc lv (.int x :: st) ws := by
  obtain ⟨p, l, e, R, s, m, args, below, meth, c, Q, D, A⟩ := E
  obtain ⟨hx, hb, hml, hown, hts, hK, hA, hN, hR⟩ := X
  exact fun H locs ls hP hD hS h => lv_if_lt hx hb hdg ht (fun q => kt q H locs ls hP hD hS h) (fun q => kf q H locs ls hP hD hS h)
theorem v_if_ge (X : vX E cc nL own Ts tys rm) {x : Int32} {off : Int} {tgt : Nat} (hdg : decode cc pc = .ok (.ifCond .ge off, 3)) (ht : (pc : Int) + off = (tgt : Int)) (kt : 0 ≤ x → V E k n tgt lv st ws) (kf : ¬ 0 ≤ x → V E k n (pc + 3) lv st ws) : V E k n pc lv (.int x :: st) ws := by
  obtain ⟨p, l, e, R, s, m, args, below, meth, c, Q, D, A⟩ := E
  obtain ⟨hx, hb, hml, hown, hts, hK, hA, hN, hR⟩ := X
  exact fun H locs ls hP hD hS h => lv_if_ge hx hb hdg ht (fun q => kt q H locs ls hP hD hS h) (fun q => kf q H locs ls hP hD hS h)
theorem v_if_gt (X : vX E cc nL own Ts tys rm) {x : Int32} {off : Int} {tgt : Nat} (hdg : decode cc pc = .ok (.ifCond .gt off, 3)) (ht : (pc : Int) + off = (tgt : Int)) (kt : 0 < x → V E k n tgt lv st ws) (kf : ¬ 0 < x → V E k n (pc + 3) lv st ws) : V E k n pc lv (.int x :: st) ws := by
  obtain ⟨p, l, e, R, s, m, args, below, meth, c, Q, D, A⟩ := E
  obtain ⟨hx, hb, hml, hown, hts, hK, hA, hN, hR⟩ := X
  exact fun H locs ls hP hD hS h => lv_if_gt hx hb hdg ht (fun q => kt q H locs ls hP hD hS h) (fun q => kf q H locs ls hP hD hS h)
theorem v_if_le (X : vX E cc nL own Ts tys rm) {x : Int32} {off : Int} {tgt : Nat} (hdg : decode cc pc = .ok (.ifCond .le off, 3)) (ht : (pc : Int) + off = (tgt : Int)) (kt : x ≤ 0 → V E k n tgt lv st ws) (kf : ¬ x ≤ 0 → V E k n (pc + 3) lv st ws) : V E k n pc lv (.int x :: st) ws := by
  obtain ⟨p, l, e, R, s, m, args, below, meth, c, Q, D, A⟩ := E
  obtain ⟨hx, hb, hml, hown, hts, hK, hA, hN, hR⟩ := X
  exact fun H locs ls hP hD hS h => lv_if_le hx hb hdg ht (fun q => kt q H locs ls hP hD hS h) (fun q => kf q H locs ls hP hD hS h)
theorem v_icmp_eq (X : vX E cc nL own Ts tys rm) {x y : Int32} {off : Int} {tgt : Nat} (hdg : decode cc pc = .ok (.if_icmp .eq off, 3)) (ht : (pc : Int) + off = (tgt : Int)) (kt : x = y → V E k n tgt lv st ws) (kf : ¬ x = y → V E k n (pc + 3) lv st ws) : V E k n pc lv (.int y :: .int x :: st) ws := by
  obtain ⟨p, l, e, R, s, m, args, below, meth, c, Q, D, A⟩ := E
  obtain ⟨hx, hb, hml, hown, hts, hK, hA, hN, hR⟩ := X
  exact fun H locs ls hP hD hS h => lv_icmp_eq hx hb hdg ht (fun q => kt q H locs ls hP hD hS h) (fun q => kf q H locs ls hP hD hS h)
theorem v_icmp_ne (X : vX E cc nL own Ts tys rm) {x y : Int32} {off : Int} {tgt : Nat} (hdg : decode cc pc = .ok (.if_icmp .ne off, 3)) (ht : (pc : Int) + off = (tgt : Int)) (kt : ¬ x = y → V E k n tgt lv st ws) (kf : x = y → V E k n (pc + 3) lv st ws) : V E k n pc lv (.int y :: .int x :: st) ws := by
  obtain ⟨p, l, e, R, s, m, args, below, meth, c, Q, D, A⟩ := E
  obtain ⟨hx, hb, hml, hown, hts, hK, hA, hN, hR⟩ := X
  exact fun H locs ls hP hD hS h => lv_icmp_ne hx hb hdg ht (fun q => kt q H locs ls hP hD hS h) (fun q => kf q H locs ls hP hD hS h)
theorem v_icmp_lt (X : vX E cc nL own Ts tys rm) {x y : Int32} {off : Int} {tgt : Nat} (hdg : decode cc pc = .ok (.if_icmp .lt off, 3)) (ht : (pc : Int) + off = (tgt : Int)) (kt : x < y → V E k n tgt lv st ws) (kf : ¬ x < y → V E k n (pc + 3) lv st ws) : V E k n pc lv (.int y :: .int x :: st) ws := by
  obtain ⟨p, l, e, R, s, m, args, below, meth, c, Q, D, A⟩ := E
  obtain ⟨hx, hb, hml, hown, hts, hK, hA, hN, hR⟩ := X
  exact fun H locs ls hP hD hS h => lv_icmp_lt hx hb hdg ht (fun q => kt q H locs ls hP hD hS h) (fun q => kf q H locs ls hP hD hS h)
theorem v_icmp_ge (X : vX E cc nL own Ts tys rm) {x y : Int32} {off : Int} {tgt : Nat} (hdg : decode cc pc = .ok (.if_icmp .ge off, 3)) (ht : (pc : Int) + off = (tgt : Int)) (kt : y ≤ x → V E k n tgt lv st ws) (kf : ¬ y ≤ x → V E k n (pc + 3) lv st ws) : V E k n pc lv (.int y :: .int x :: st) ws := by
  obtain ⟨p, l, e, R, s, m, args, below, meth, c, Q, D, A⟩ := E
  obtain ⟨hx, hb, hml, hown, hts, hK, hA, hN, hR⟩ := X
  exact fun H locs ls hP hD hS h => lv_icmp_ge hx hb hdg ht (fun q => kt q H locs ls hP hD hS h) (fun q => kf q H locs ls hP hD hS h)
theorem v_icmp_gt (X : vX E cc nL own Ts tys rm) {x y : Int32} {off : Int} {tgt : Nat} (hdg : decode cc pc = .ok (.if_icmp .gt off, 3)) (ht : (pc : Int) + off = (tgt : Int)) (kt : y < x → V E k n tgt lv st ws) (kf : ¬ y < x → V E k n (pc + 3) lv st ws) : V E k n pc lv (.int y :: .int x :: st) ws := by
  obtain ⟨p, l, e, R, s, m, args, below, meth, c, Q, D, A⟩ := E
  obtain ⟨hx, hb, hml, hown, hts, hK, hA, hN, hR⟩ := X
  exact fun H locs ls hP hD hS h => lv_icmp_gt hx hb hdg ht (fun q => kt q H locs ls hP hD hS h) (fun q => kf q H locs ls hP hD hS h)
theorem v_icmp_le (X : vX E cc nL own Ts tys rm) {x y : Int32} {off : Int} {tgt : Nat} (hdg : decode cc pc = .ok (.if_icmp .le off, 3)) (ht : (pc : Int) + off = (tgt : Int)) (kt : x ≤ y → V E k n tgt lv st ws) (kf : ¬ x ≤ y → V E k n (pc + 3) lv st ws) : V E k n pc lv (.int y :: .int x :: st) ws := by
  obtain ⟨p, l, e, R, s, m, args, below, meth, c, Q, D, A⟩ := E
  obtain ⟨hx, hb, hml, hown, hts, hK, hA, hN, hR⟩ := X
  exact fun H locs ls hP hD hS h => lv_icmp_le hx hb hdg ht (fun q => kt q H locs ls hP hD hS h) (fun q => kf q H locs ls hP hD hS h)
theorem v_get (X : vX E cc nL own Ts tys rm) {C ref : String} {F : u_T} {N ci ix a : Nat} {fs : List Value} {v : Value} (q0 f : Nat) (hin : ∀ w ∈ u_ws C F N, w ∈ Ts) (hc : vwCl[ci]? = some (C, F, N)) (he : ws[q0]? = some (a, .inr (ci, fs))) (hf : f < N) (hlink : Cond.fieldLink own ix ref (F f).2.1 (F f).2.2.1 ∈ Ts) (hs : (F f).1 = ref) (hv : fs[f]? = some v) (hdg : decode cc pc = .ok (.getfield ix, 3)) (kk : V E k n (pc + 3) lv (v :: st) ws) : V E k n pc lv (.ref a :: st) ws := by
  obtain ⟨p, l, e, R, s, m, args, below, meth, c, Q, D, A⟩ := E
  obtain ⟨hx, hb, hml, hown, hts, hK, hA, hN, hR⟩ := X
  exact fun H locs ls hP hD hS h => va_get hx hb hts hin hown hK hP q0 he hc f hf (hts _ hlink) (fun x h9 => by rw [← hs]; exact h9) hv hdg (kk H locs ls hP hD hS h)
theorem v_getN (X : vX E cc nL own Ts tys rm) {C ref host : String} {F : u_T} {N ci ix a : Nat} {fs : List Value} {v : Value} (q0 f : Nat) (hin : ∀ w ∈ u_ws C F N, w ∈ Ts) (hc : vwCl[ci]? = some (C, F, N)) (he : ws[q0]? = some (a, .inr (ci, fs))) (hf : f < N) (hlink : Cond.fieldLinkNest own ix ref (F f).2.1 (F f).2.2.1 host ∈ vNw) (hs : (F f).1 = ref) (hv : fs[f]? = some v) (hdg : decode cc pc = .ok (.getfield ix, 3)) (kk : V E k n (pc + 3) lv (v :: st) ws) : V E k n pc lv (.ref a :: st) ws := by
  obtain ⟨p, l, e, R, s, m, args, below, meth, c, Q, D, A⟩ := E
  obtain ⟨hx, hb, hml, hown, hts, hK, hA, hN, hR⟩ := X
  exact fun H locs ls hP hD hS h => va_getN hx hb hts hin hown hK hP q0 he hc f hf (va_Nw.use rfl (hN _ hlink)) (fun x h9 => by rw [← hs]; exact h9) hv hdg (kk H locs ls hP hD hS h)
theorem v_put (X : vX E cc nL own Ts tys rm) {C ref : String} {F : u_T} {N ci ix a : Nat} {fs : List Value} {v : Value} {ty : FieldType} {ws' : va_W} (q0 f : Nat) (hin : ∀ w ∈ u_ws C F N, w ∈ Ts) (hc : vwCl[ci]? = some (C, F, N)) (ty0 : Nat → FieldType) (hty : ∀ k, k < N → parseFieldDescriptor (F k).2.2.1 = some (ty0 k)) (hnm : ∀ a, a < N → ∀ b, b < N → a ≠ b → (F a).2.1 ≠ (F b).2.1) (he : ws[q0]? = some (a, .inr (ci, fs))) (hf : f < N) (hlink : Cond.fieldLink own ix ref (F f).2.1 (F f).2.2.1 ∈ Ts) (hs : (F f).1 = ref) (hfin : (F f).2.2.2 = false) (hd : ty0 f = ty) (hn : narrow ty v = v) (hfit : fits ty v = true) (hl : f < fs.length) (hw : ws.set q0 (a, .inr (ci, fs.set f v)) = ws') (hdg : decode cc pc = .ok (.putfield ix, 3)) (kk : V E k n (pc + 3) lv st ws') : V E k n pc lv (v :: .ref a :: st) ws := by
  obtain ⟨p, l, e, R, s, m, args, below, meth, c, Q, D, A⟩ := E
  obtain ⟨hx, hb, hml, hown, hts, hK, hA, hN, hR⟩ := X
  subst hw
  exact fun H locs ls hP hD hS h => va_put hx hb hts hin ty0 hty hnm hown hK hP hD hS q0 he hc f hf (hts _ hlink) (fun x h9 => by rw [← hs]; exact h9) hfin (by rw [hty f hf, hd]) hn hfit hl hdg (fun H locs hP hD hS => kk H locs ls hP hD hS h)
theorem v_iald (X : vX E cc nL own Ts tys rm) {a N : Nat} {cA : ClassId} {f : Nat → Int32} {i : Int32} (q0 t0 : Nat) (ha : ws[q0]? = some (a, .inl (cA, N, .inl f))) (ht : tys[t0]? = some (cA, .int)) (hin : vp_in i N) (hdg : decode cc pc = .ok (.iaload, 1)) (kk : V E k n (pc + 1) lv (.int (f i.toNatClampNeg) :: st) ws) : V E k n pc lv (.int i :: .ref a :: st) ws := by
  obtain ⟨p, l, e, R, s, m, args, below, meth, c, Q, D, A⟩ := E
  obtain ⟨hx, hb, hml, hown, hts, hK, hA, hN, hR⟩ := X
  exact fun H locs ls hP hD hS h => va_iald hx hb hK hP q0 t0 ha ht hin hdg (kk H locs ls hP hD hS h)
theorem v_lald (X : vX E cc nL own Ts tys rm) {a N : Nat} {cA : ClassId} {f : Nat → Int64} {i : Int32} (q0 t0 : Nat) (ha : ws[q0]? = some (a, .inl (cA, N, .inr (.inl f)))) (ht : tys[t0]? = some (cA, .long)) (hin : vp_in i N) (hdg : decode cc pc = .ok (.laload, 1)) (kk : V E k n (pc + 1) lv (.long (f i.toNatClampNeg) :: st) ws) : V E k n pc lv (.int i :: .ref a :: st) ws := by
  obtain ⟨p, l, e, R, s, m, args, below, meth, c, Q, D, A⟩ := E
  obtain ⟨hx, hb, hml, hown, hts, hK, hA, hN, hR⟩ := X
  exact fun H locs ls hP hD hS h => va_lald hx hb hK hP q0 t0 ha ht hin hdg (kk H locs ls hP hD hS h)
theorem v_iast (X : vX E cc nL own Ts tys rm) {a N : Nat} {cA : ClassId} {f : Nat → Int32} {i x : Int32} {ws' : va_W} (q0 t0 : Nat) (ha : ws[q0]? = some (a, .inl (cA, N, .inl f))) (ht : tys[t0]? = some (cA, .int)) (hin : vp_in i N) (hw : ws.set q0 (a, .inl (cA, N, .inl (upd f i.toNatClampNeg x))) = ws') (hdg : decode cc pc = .ok (.iastore, 1)) (kk : V E k n (pc + 1) lv st ws') : V E k n pc lv (.int x :: .int i :: .ref a :: st) ws := by
  obtain ⟨p, l, e, R, s, m, args, below, meth, c, Q, D, A⟩ := E
  obtain ⟨hx, hb, hml, hown, hts, hK, hA, hN, hR⟩ := X
  subst hw
  exact fun H locs ls hP hD hS h => va_iast hx hb hK hP hD hS q0 t0 ha ht hin hdg (fun H locs hP hD hS => kk H locs ls hP hD hS h)
theorem v_last (X : vX E cc nL own Ts tys rm) {a N : Nat} {cA : ClassId} {f : Nat → Int64} {i : Int32} {x : Int64} {ws' : va_W} (q0 t0 : Nat) (ha : ws[q0]? = some (a, .inl (cA, N, .inr (.inl f)))) (ht : tys[t0]? = some (cA, .long)) (hin : vp_in i N) (hw : ws.set q0 (a, .inl (cA, N, .inr (.inl (vp_updL f i.toNatClampNeg x)))) = ws') (hdg : decode cc pc = .ok (.lastore, 1)) (kk : V E k n (pc + 1) lv st ws') : V E k n pc lv (.long x :: .int i :: .ref a :: st) ws := by
  obtain ⟨p, l, e, R, s, m, args, below, meth, c, Q, D, A⟩ := E
  obtain ⟨hx, hb, hml, hown, hts, hK, hA, hN, hR⟩ := X
  subst hw
  exact fun H locs ls hP hD hS h => va_last hx hb hK hP hD hS q0 t0 ha ht hin hdg (fun H locs hP hD hS => kk H locs ls hP hD hS h)
theorem v_aald (X : vX E cc nL own Ts tys rm) {a N b : Nat} {C : String} {cA : ClassId} {f : Nat → Option Nat} {i : Int32} (q0 t0 : Nat) (ha : ws[q0]? = some (a, .inl (cA, N, .inr (.inr (.inr (.inr f)))))) (ht : tys[t0]? = some (cA, .object C)) (hin : vp_in i N) (hf : f i.toNatClampNeg = some b) (hdg : decode cc pc = .ok (.aaload, 1)) (kk : V E k n (pc + 1) lv (.ref b :: st) ws) : V E k n pc lv (.int i :: .ref a :: st) ws := by
  obtain ⟨p, l, e, R, s, m, args, below, meth, c, Q, D, A⟩ := E
  obtain ⟨hx, hb, hml, hown, hts, hK, hA, hN, hR⟩ := X
  exact fun H locs ls hP hD hS h => va_aldq hx hb hK hP q0 t0 ha ht hin hdg (by rw [hf]; exact kk H locs ls hP hD hS h)
theorem v_aaldA (X : vX E cc nL own Ts tys rm) {a N b : Nat} {cA : ClassId} {f : Nat → Option Nat} {i : Int32} (q0 t0 : Nat) (ha : ws[q0]? = some (a, .inl (cA, N, .inr (.inr (.inr (.inr f)))))) (ht : tys[t0]? = some (cA, .array .int)) (hin : vp_in i N) (hf : f i.toNatClampNeg = some b) (hdg : decode cc pc = .ok (.aaload, 1)) (kk : V E k n (pc + 1) lv (.ref b :: st) ws) : V E k n pc lv (.int i :: .ref a :: st) ws := by
  obtain ⟨p, l, e, R, s, m, args, below, meth, c, Q, D, A⟩ := E
  obtain ⟨hx, hb, hml, hown, hts, hK, hA, hN, hR⟩ := X
  intro H locs ls hP hD hS h
  have hlt : i.toNatClampNeg < N := Nat.not_le.mp fun q => hin (Or.inr q)
  exact W.aald (v := .ref b) (ty := .array .int) hx hb (hP q0 _ ha) ((hK.2 t0 _ ht).1 N (fun j => va_rf (f j))) rfl (fun q => by cases q) (by show ¬ (i < 0 ∨ (arrV _ _ _).slots.size ≤ _); rw [arrV_size]; exact hin) (by show (arrV _ _ _).slots[_]? = _; rw [arrV_read _ _ hlt, hf]; rfl) rfl rfl hdg (kk H locs ls hP hD hS h)
theorem v_aast (X : vX E cc nL own Ts tys rm) {a N v ci : Nat} {cA : ClassId} {r : vw_C} {vs : List Value} {f : Nat → Option Nat} {i : Int32} {ws' : va_W} (q0 t0 qk : Nat) (ha : ws[q0]? = some (a, .inl (cA, N, .inr (.inr (.inr (.inr f)))))) (ht : tys[t0]? = some (cA, .object r.1)) (hv : ws[qk]? = some (v, .inr (ci, vs))) (hc : vwCl[ci]? = some r) (hin : vp_in i N) (hw : ws.set q0 (a, .inl (cA, N, .inr (.inr (.inr (.inr (va_up f i.toNatClampNeg (some v))))))) = ws') (hdg : decode cc pc = .ok (.aastore, 1)) (kk : V E k n (pc + 1) lv st ws') : V E k n pc lv (.ref v :: .int i :: .ref a :: st) ws := by
  obtain ⟨p, l, e, R, s, m, args, below, meth, c, Q, D, A⟩ := E
  obtain ⟨hx, hb, hml, hown, hts, hK, hA, hN, hR⟩ := X
  subst hw
  exact fun H locs ls hP hD hS h => va_astq hx hb hK hP hD hS q0 t0 qk ci ha ht hv hc hin hdg (fun H locs hP hD hS => kk H locs ls hP hD hS h)
theorem v_copyi (X : vX E cc nL own Ts tys rm) {ix a a0 n0 n1 : Nat} {c0 c1 : ClassId} {f g : Nat → Int32} {sp dp z : Int32} {ws' : va_W} (q0 q1 t0 t1 : Nat) (hlink : Cond.methodLink own ix arraycopyName ∈ Ts) (hnat : Cond.native arraycopyName ∈ Ts) (hstat : Cond.static arraycopyName ∈ Ts) (hini : Cond.initialized "java/lang/System" ∈ Ts) (ha0 : ws[q0]? = some (a0, .inl (c0, n0, .inl f))) (ha1 : ws[q1]? = some (a, .inl (c1, n1, .inl g))) (ht0 : tys[t0]? = some (c0, .int)) (ht1 : tys[t1]? = some (c1, .int)) (h1 : ¬ sp < 0) (h2 : ¬ dp < 0) (h3 : ¬ z < 0) (h4 : sp.toNatClampNeg + z.toNatClampNeg ≤ n0) (h5 : dp.toNatClampNeg + z.toNatClampNeg ≤ n1) (hfr : 1 ≤ rm.frames) (hlo : (st.map fun v => v.category).sum + (nativeFrameWords "java/lang/System" "arraycopy" 5 + 11) ≤ rm.locals) (hw : ws.set q1 (a, .inl (c1, n1, .inl (va_cpy f g sp.toNatClampNeg dp.toNatClampNeg z.toNatClampNeg))) = ws') (hdg : decode cc pc = .ok (.invokestatic ix, 3)) (kk : V E k n (pc + 3) lv st ws') : V E k n pc lv (.int z :: .int dp :: .ref a :: .int sp :: .ref a0 :: st) ws := by
  obtain ⟨p, l, e, R, s, m, args, below, meth, c, Q, D, A⟩ := E
  obtain ⟨hx, hb, hml, hown, hts, hK, hA, hN, hR⟩ := X
  subst hw
  subst hR
  exact fun H locs ls hP hD hS h => va_copyi hx hb h.1.symm hown (hts _ hlink) (hts _ hnat) (hts _ hstat) (hts _ hini) hK hP hD hS q0 q1 t0 t1 ha0 ha1 ht0 ht1 rfl h1 h2 h3 h4 h5 (fun _ _ => rfl) hfr hlo hdg (fun H locs hP hD hS => kk H locs ls hP hD hS h)

theorem v_putN (X : vX E cc nL own Ts tys rm) {C ref host : String} {F : u_T} {N ci ix a : Nat} {fs : List Value} {v : Value} {ty : FieldType} {ws' : va_W} (q0 f : Nat) (hin : ∀ w ∈ u_ws C F N, w ∈ Ts) (hc : vwCl[ci]? = some (C, F, N)) (ty0 : Nat → FieldType) (hty : ∀ k, k < N → parseFieldDescriptor (F k).2.2.1 = some (ty0 k)) (hnm : ∀ a, a < N → ∀ b, b < N → a ≠ b → (F a).2.1 ≠ (F b).2.1) (he : ws[q0]? = some (a, .inr (ci, fs))) (hf : f < N) (hlink : Cond.fieldLinkNest own ix ref (F f).2.1 (F f).2.2.1 host ∈ vNw) (hs : (F f).1 = ref) (hfin : (F f).2.2.2 = false) (hd : ty0 f = ty) (hn : narrow ty v = v) (hfit : fits ty v = true) (hl : f < fs.length) (hw : ws.set q0 (a, .inr (ci, fs.set f v)) = ws') (hdg : decode cc pc = .ok (.putfield ix, 3)) (kk : V E k n (pc + 3) lv st ws') : V E k n pc lv (v :: .ref a :: st) ws := by
  obtain ⟨p, l, e, R, s, m, args, below, meth, c, Q, D, A⟩ := E
  obtain ⟨hx, hb, hml, hown, hts, hK, hA, hN, hR⟩ := X
  subst hw
  exact fun H locs ls hP hD hS h => va_putN hx hb hts hin ty0 hty hnm hown hK hP hD hS q0 he hc f hf (va_Nw.use rfl (hN _ hlink)) (fun x h9 => by rw [← hs]; exact h9) hfin (by rw [hty f hf, hd]) hn hfit hl hdg (fun H locs hP hD hS => kk H locs ls hP hD hS h)
theorem v_mmax (X : vX E cc nL own Ts tys rm) {ix : Nat} {x y : Int32} (i1 : Cond.methodLink own ix Lib.Math.max.name ∈ Ts) (i2 : Cond.static Lib.Math.max.name ∈ Ts) (i3 : Cond.initialized "java/lang/Math" ∈ Ts) (i4 : Cond.code Lib.Math.max.name Lib.Math.max.code 2 (some .int) ∈ Ts) (hfr : 1 ≤ rm.frames) (hlo : (st.map fun v => v.category).sum + 13 ≤ rm.locals) (hkn : k ≤ rm.cells ∧ n ≤ rm.slots) (hdg : decode cc pc = .ok (.invokestatic ix, 3)) (kk : V E k n (pc + 3) lv (.int (if x < y then y else x) :: st) ws) : V E k n pc lv (.int y :: .int x :: st) ws := by
  obtain ⟨p, l, e, R, s, m, args, below, meth, c, Q, D, A⟩ := E
  obtain ⟨hx, hb, hml, hown, hts, hK, hA, hN, hR⟩ := X
  subst hR
  exact fun H locs ls hP hD hS h => va_mmax hx hb h.1.symm hown (hts _ i1) (hts _ i2) (hts _ i3) (hts _ i4) hfr hlo hkn.1 hkn.2 hdg (kk H locs ls hP hD hS h)
theorem v_mmin (X : vX E cc nL own Ts tys rm) {ix : Nat} {x y : Int32} (i1 : Cond.methodLink own ix Lib.Math.min.name ∈ Ts) (i2 : Cond.static Lib.Math.min.name ∈ Ts) (i3 : Cond.initialized "java/lang/Math" ∈ Ts) (i4 : Cond.code Lib.Math.min.name Lib.Math.min.code 2 (some .int) ∈ Ts) (hfr : 1 ≤ rm.frames) (hlo : (st.map fun v => v.category).sum + 13 ≤ rm.locals) (hkn : k ≤ rm.cells ∧ n ≤ rm.slots) (hdg : decode cc pc = .ok (.invokestatic ix, 3)) (kk : V E k n (pc + 3) lv (.int (if y < x then y else x) :: st) ws) : V E k n pc lv (.int y :: .int x :: st) ws := by
  obtain ⟨p, l, e, R, s, m, args, below, meth, c, Q, D, A⟩ := E
  obtain ⟨hx, hb, hml, hown, hts, hK, hA, hN, hR⟩ := X
  subst hR
  exact fun H locs ls hP hD hS h => va_mmin hx hb h.1.symm hown (hts _ i1) (hts _ i2) (hts _ i3) (hts _ i4) hfr hlo hkn.1 hkn.2 hdg (kk H locs ls hP hD hS h)

/-- what a method's start and end say of its world -/
def vPre (D : va_G) (tys : List (ClassId × FieldType)) (sz : Nat) (ws : va_W) : State → Prop := fun U => U.heap.size = sz ∧ va_P D vwCl ws U.heap ∧ va_K D vwCl tys U ∧ va_D (fun _ => True) ws ∧ vN U
def vPost (D : va_G) (A : Nat → Prop) (ws : va_W) : State → Prop := fun t => va_P D vwCl ws t.heap ∧ va_D A ws
def vCi {S : Type} (l : Launch) (D : va_G) (tys : List (ClassId × FieldType)) (y : MethodName) (wd : List Cond) (rm : Room) (as : List Value) (pre : va_W) (Q : Int32 → S → Prop) (post : S → va_W) : Prop := ∀ sz : Nat, Met l y wd rm (va_Pc as (vPre D tys sz pre)) (va_Qi Q (fun u => vPost D (va_A pre sz) (post u)) (va_A pre sz)) 0 0 (va_A pre sz)
def vCl {S : Type} (l : Launch) (D : va_G) (tys : List (ClassId × FieldType)) (y : MethodName) (wd : List Cond) (rm : Room) (as : List Value) (pre : va_W) (Q : Int64 → S → Prop) (post : S → va_W) : Prop := ∀ sz : Nat, Met l y wd rm (va_Pc as (vPre D tys sz pre)) (va_Ql Q (fun u => vPost D (va_A pre sz) (post u)) (va_A pre sz)) 0 0 (va_A pre sz)
def vCv {S : Type} (l : Launch) (D : va_G) (tys : List (ClassId × FieldType)) (y : MethodName) (wd : List Cond) (rm : Room) (as : List Value) (pre : va_W) (Q : S → Prop) (post : S → va_W) : Prop := ∀ sz : Nat, Met l y wd rm (va_Pc as (vPre D tys sz pre)) (va_Qv Q (fun u => vPost D (va_A pre sz) (post u)) (va_A pre sz)) 0 0 (va_A pre sz)
/-- what a return instruction needs -/
def vRi {S : Type} (E : vE) (cc : ByteArray) (Q : Int32 → S → Prop) (post : S → va_W) : Prop := ∀ (pc : Nat) (lv : List (Nat × Value)) (v : Int32) (u : S) (ws : va_W), decode cc pc = .ok (.ireturn, 1) → Q v u → post u = ws → V E 0 0 pc lv [.int v] ws
def vRz {S : Type} (E : vE) (cc : ByteArray) (Q : Int32 → S → Prop) (post : S → va_W) : Prop := ∀ (pc : Nat) (lv : List (Nat × Value)) (v : Int32) (u : S) (ws : va_W), decode cc pc = .ok (.ireturn, 1) → vz v → Q v u → post u = ws → V E 0 0 pc lv [.int v] ws
def vRl {S : Type} (E : vE) (cc : ByteArray) (Q : Int64 → S → Prop) (post : S → va_W) : Prop := ∀ (pc : Nat) (lv : List (Nat × Value)) (v : Int64) (u : S) (ws : va_W), decode cc pc = .ok (.lreturn, 1) → Q v u → post u = ws → V E 0 0 pc lv [.long v] ws
def vRv {S : Type} (E : vE) (cc : ByteArray) (Q : S → Prop) (post : S → va_W) : Prop := ∀ (pc : Nat) (lv : List (Nat × Value)) (u : S) (ws : va_W), decode cc pc = .ok (.return_, 1) → Q u → post u = ws → V E 0 0 pc lv [] ws
end VV
theorem vMetF {l : Launch} {y : MethodName} {ws ws' : List Cond} {rm : Room} {Pc : Array Value → State → Prop} {Qc : Array Value → State → Outcome → State → Prop} {mc ms : Nat} {free : Addr → Prop} {cc : ByteArray} {maxL : Nat} {ret : Option FieldType} (hy : plainFor y = true) (hw : ws = Cond.code y cc maxL ret :: ws')
    (body : ∀ p e s m args below meth c s₁, BodyLoose p l y (headSpec ws rm) cc maxL ret e s m args below meth c s₁ → c.maxLocals = maxL → Pc args s → W p l e (headSpec ws rm).room s m args below meth c s.heap [] 0 0 (MQ below Qc args s mc ms free) (entryFrame m args maxL)) : Met l y ws rm Pc Qc mc ms free := by
  refine MetFree.of_bodySF (code := cc) (maxLocals := maxL) (ret := ret) hy ?_ ?_
  · intro args s m h hn
    obtain ⟨meth, c, h1, h2, h3, h4, h5, h6, -, -⟩ := Cond.code_spec hn (atoms_spec (ws := ws) h _ (by rw [hw]; exact List.mem_cons_self))
    exact ⟨meth, c, h1, h2, h3, h4, h5, h6⟩
  · intro p e s m args below meth c s₁ B hml hP _
    have hh0 : s₁.heap = s.heap := by rw [B.state]; rfl
    obtain ⟨t, a1, o, b1, b2, b3⟩ := body p e s m args below meth c s₁ B hml hP s₁ hh0 (Stand.of_body B)
    exact ⟨t, o, a1, b1, b2, ⟨b3.1, b3.2⟩⟩
theorem vC_start {D : va_G} {A : Nat → Prop} {p : Program} {l : Launch} {e : Env} {R : Room} {s : State} {m : MethodId} {below : List Frame} {meth : Method} {c : Code} {Q : State → Prop} {as : List Value} {nL : Nat} {lv : List (Nat × Value)} {pre : va_W} (hml : c.maxLocals = nL) (hlen : (lg_sl as).length ≤ nL) (hlv : lv_args 0 as = lv) (hP : va_P D vwCl pre s.heap) (hD : va_D A pre) (kk : V (p, l, e, R, s, m, as.toArray, below, meth, c, Q, D, A) 0 0 0 lv [] pre) : W p l e R s m as.toArray below meth c s.heap [] 0 0 Q (entryFrame m as.toArray nL) := by
  subst hlv
  rw [lg_entry_eq]
  exact kk s.heap [] _ hP hD va_S.rf (by rw [hml]; exact lv_entry as hlen)

theorem vC_i {S : Type} {l : Launch} {D : va_G} {tys : List (ClassId × FieldType)} {y : MethodName} {wd wd' : List Cond} {rm : Room} {as : List Value} {pre : va_W} {Q : Int32 → S → Prop} {post : S → va_W} {cc : ByteArray} {nL : Nat} {lv : List (Nat × Value)} (hy : plainName y.cls = true) (hw : wd = Cond.code y cc nL (some .int) :: wd') (hrm : rm.cells = 0 ∧ rm.slots = 0) (hlen : (lg_sl as).length ≤ nL) (hlv : lv_args 0 as = lv) (body : ∀ E : vE, vl E = l → vD E = D → vX E cc nL y.cls wd tys rm → vRi E cc Q post → V E 0 0 0 lv [] pre) : vCi l D tys y wd rm as pre Q post := by
  intro sz
  refine Met.ofW (cc := cc) (maxL := nL) (ret := (some .int)) hy hw ?_
  intro p e s m args below meth c s₁ B hml hv
  obtain ⟨rfl, hsz, hP, hK, hD0, hN⟩ := hv
  have hx := B.exec
  have hb := B.bytes
  have hr := B.returns
  have hts := atoms_spec (ws := wd) B.pre
  have hown : s.vm.findClass y.cls = some m.cls := findClass_of_methodNamed B.named
  have hlocks := B.notSynchronized
  subst hsz
  have hD := hD0.self (sz := s.heap.size)
  generalize hAe : va_A pre s.heap.size = A at hD ⊢
  have hA : ∀ q : Nat, s.heap.size ≤ q → A q := fun q h => by rw [← hAe]; exact Or.inr h
  refine vC_start (D := D) (A := A) hml hlen hlv hP hD ?_
  refine body _ rfl rfl ⟨hx, hb, hml, hown, hts, hK, hA, hN, rfl⟩ ?_
  exact fun pc lv v u ws hdg hq hp H locs ls hP hD hS h => W.iret (v := v) hx hb hr (fun t ht hW => ⟨⟨v, u, rfl, hq, by rw [hp, ht]; exact hP, by rw [hp]; exact hD⟩, hS.F ht⟩) hS.2.2 hdg
theorem vC_iF {S : Type} {l : Launch} {D : va_G} {tys : List (ClassId × FieldType)} {y : MethodName} {wd wd' : List Cond} {rm : Room} {as : List Value} {pre : va_W} {Q : Int32 → S → Prop} {post : S → va_W} {cc : ByteArray} {nL : Nat} {lv : List (Nat × Value)} (hy : plainFor y = true) (hw : wd = Cond.code y cc nL (some .int) :: wd') (hrm : rm.cells = 0 ∧ rm.slots = 0) (hlen : (lg_sl as).length ≤ nL) (hlv : lv_args 0 as = lv) (body : ∀ E : vE, vl E = l → vD E = D → vX E cc nL y.cls wd tys rm → vRi E cc Q post → V E 0 0 0 lv [] pre) : vCi l D tys y wd rm as pre Q post := by
  intro sz
  refine vMetF (cc := cc) (maxL := nL) (ret := (some .int)) hy hw ?_
  intro p e s m args below meth c s₁ B hml hv
  obtain ⟨rfl, hsz, hP, hK, hD0, hN⟩ := hv
  have hx := B.exec
  have hb := B.bytes
  have hr := B.returns
  have hts := atoms_spec (ws := wd) B.pre
  have hown : s.vm.findClass y.cls = some m.cls := findClass_of_methodNamed B.named
  have hlocks := B.notSynchronized
  subst hsz
  have hD := hD0.self (sz := s.heap.size)
  generalize hAe : va_A pre s.heap.size = A at hD ⊢
  have hA : ∀ q : Nat, s.heap.size ≤ q → A q := fun q h => by rw [← hAe]; exact Or.inr h
  refine vC_start (D := D) (A := A) hml hlen hlv hP hD ?_
  refine body _ rfl rfl ⟨hx, hb, hml, hown, hts, hK, hA, hN, rfl⟩ ?_
  exact fun pc lv v u ws hdg hq hp H locs ls hP hD hS h => W.iret (v := v) hx hb hr (fun t ht hW => ⟨⟨v, u, rfl, hq, by rw [hp, ht]; exact hP, by rw [hp]; exact hD⟩, hS.F ht⟩) hS.2.2 hdg
theorem vC_z {S : Type} {l : Launch} {D : va_G} {tys : List (ClassId × FieldType)} {y : MethodName} {wd wd' : List Cond} {rm : Room} {as : List Value} {pre : va_W} {Q : Int32 → S → Prop} {post : S → va_W} {cc : ByteArray} {nL : Nat} {lv : List (Nat × Value)} (hy : plainName y.cls = true) (hw : wd = Cond.code y cc nL (some .boolean) :: wd') (hrm : rm.cells = 0 ∧ rm.slots = 0) (hlen : (lg_sl as).length ≤ nL) (hlv : lv_args 0 as = lv) (body : ∀ E : vE, vl E = l → vD E = D → vX E cc nL y.cls wd tys rm → vRz E cc Q post → V E 0 0 0 lv [] pre) : vCi l D tys y wd rm as pre Q post := by
  intro sz
  refine Met.ofW (cc := cc) (maxL := nL) (ret := (some .boolean)) hy hw ?_
  intro p e s m args below meth c s₁ B hml hv
  obtain ⟨rfl, hsz, hP, hK, hD0, hN⟩ := hv
  have hx := B.exec
  have hb := B.bytes
  have hr := B.returns
  have hts := atoms_spec (ws := wd) B.pre
  have hown : s.vm.findClass y.cls = some m.cls := findClass_of_methodNamed B.named
  have hlocks := B.notSynchronized
  subst hsz
  have hD := hD0.self (sz := s.heap.size)
  generalize hAe : va_A pre s.heap.size = A at hD ⊢
  have hA : ∀ q : Nat, s.heap.size ≤ q → A q := fun q h => by rw [← hAe]; exact Or.inr h
  refine vC_start (D := D) (A := A) hml hlen hlv hP hD ?_
  refine body _ rfl rfl ⟨hx, hb, hml, hown, hts, hK, hA, hN, rfl⟩ ?_
  exact fun pc lv v u ws hdg hz hq hp H locs ls hP hD hS h => W.zret (v := v) hx hb hr (vz_nar hz) (fun t ht hW => ⟨⟨v, u, rfl, hq, by rw [hp, ht]; exact hP, by rw [hp]; exact hD⟩, hS.F ht⟩) hS.2.2 hdg
theorem vC_l {S : Type} {l : Launch} {D : va_G} {tys : List (ClassId × FieldType)} {y : MethodName} {wd wd' : List Cond} {rm : Room} {as : List Value} {pre : va_W} {Q : Int64 → S → Prop} {post : S → va_W} {cc : ByteArray} {nL : Nat} {lv : List (Nat × Value)} (hy : plainName y.cls = true) (hw : wd = Cond.code y cc nL (some .long) :: wd') (hrm : rm.cells = 0 ∧ rm.slots = 0) (hlen : (lg_sl as).length ≤ nL) (hlv : lv_args 0 as = lv) (body : ∀ E : vE, vl E = l → vD E = D → vX E cc nL y.cls wd tys rm → vRl E cc Q post → V E 0 0 0 lv [] pre) : vCl l D tys y wd rm as pre Q post := by
  intro sz
  refine Met.ofW (cc := cc) (maxL := nL) (ret := (some .long)) hy hw ?_
  intro p e s m args below meth c s₁ B hml hv
  obtain ⟨rfl, hsz, hP, hK, hD0, hN⟩ := hv
  have hx := B.exec
  have hb := B.bytes
  have hr := B.returns
  have hts := atoms_spec (ws := wd) B.pre
  have hown : s.vm.findClass y.cls = some m.cls := findClass_of_methodNamed B.named
  have hlocks := B.notSynchronized
  subst hsz
  have hD := hD0.self (sz := s.heap.size)
  generalize hAe : va_A pre s.heap.size = A at hD ⊢
  have hA : ∀ q : Nat, s.heap.size ≤ q → A q := fun q h => by rw [← hAe]; exact Or.inr h
  refine vC_start (D := D) (A := A) hml hlen hlv hP hD ?_
  refine body _ rfl rfl ⟨hx, hb, hml, hown, hts, hK, hA, hN, rfl⟩ ?_
  exact fun pc lv v u ws hdg hq hp H locs ls hP hD hS h => W.lret (v := v) hx hb hr (fun t ht hW => ⟨⟨v, u, rfl, hq, by rw [hp, ht]; exact hP, by rw [hp]; exact hD⟩, hS.F ht⟩) hS.2.2 hdg
theorem vC_v {S : Type} {l : Launch} {D : va_G} {tys : List (ClassId × FieldType)} {y : MethodName} {wd wd' : List Cond} {rm : Room} {as : List Value} {pre : va_W} {Q : S → Prop} {post : S → va_W} {cc : ByteArray} {nL : Nat} {lv : List (Nat × Value)} (hy : plainName y.cls = true) (hw : wd = Cond.code y cc nL none :: wd') (hrm : rm.cells = 0 ∧ rm.slots = 0) (hlen : (lg_sl as).length ≤ nL) (hlv : lv_args 0 as = lv) (body : ∀ E : vE, vl E = l → vD E = D → vX E cc nL y.cls wd tys rm → vRv E cc Q post → V E 0 0 0 lv [] pre) : vCv l D tys y wd rm as pre Q post := by
  intro sz
  refine Met.ofW (cc := cc) (maxL := nL) (ret := none) hy hw ?_
  intro p e s m args below meth c s₁ B hml hv
  obtain ⟨rfl, hsz, hP, hK, hD0, hN⟩ := hv
  have hx := B.exec
  have hb := B.bytes
  have hr := B.returns
  have hts := atoms_spec (ws := wd) B.pre
  have hown : s.vm.findClass y.cls = some m.cls := findClass_of_methodNamed B.named
  have hlocks := B.notSynchronized
  subst hsz
  have hD := hD0.self (sz := s.heap.size)
  generalize hAe : va_A pre s.heap.size = A at hD ⊢
  have hA : ∀ q : Nat, s.heap.size ≤ q → A q := fun q h => by rw [← hAe]; exact Or.inr h
  refine vC_start (D := D) (A := A) hml hlen hlv hP hD ?_
  refine body _ rfl rfl ⟨hx, hb, hml, hown, hts, hK, hA, hN, rfl⟩ ?_
  exact fun pc lv u ws hdg hq hp H locs ls hP hD hS h => W.vret hx hb hr (fun t ht hW => ⟨⟨u, rfl, hq, by rw [hp, ht]; exact hP, by rw [hp]; exact hD⟩, hS.F ht⟩) hS.2.2 hdg
abbrev vr (f lo : Nat) : Room := { frames := f, cells := 0, slots := 0, locals := lo }
theorem vin_nat {i : Int32} {N : Nat} (h : vp_in i N) (hN : N < 2 ^ 31) : ∃ j : Nat, j < N ∧ i = nI j := vp_in_of h hN
theorem vin_6 {i : Int32} (h : vp_in i 6) : i = 0 ∨ i = 1 ∨ i = 2 ∨ i = 3 ∨ i = 4 ∨ i = 5 := by
  obtain ⟨j, hj, rfl⟩ := vp_in_of h (by decide)
  rcases (show j = 0 ∨ j = 1 ∨ j = 2 ∨ j = 3 ∨ j = 4 ∨ j = 5 by omega) with rfl | rfl | rfl | rfl | rfl | rfl <;> decide
theorem vin_4 {i : Int32} (h : vp_in i 4) : i = 0 ∨ i = 1 ∨ i = 2 ∨ i = 3 := by
  obtain ⟨j, hj, rfl⟩ := vp_in_of h (by decide)
  rcases (show j = 0 ∨ j = 1 ∨ j = 2 ∨ j = 3 by omega) with rfl | rfl | rfl | rfl <;> decide
theorem vts_4 {x : Int32} (h : ¬ (x.toInt < 0 ∨ 3 < x.toInt)) : x = 0 ∨ x = 1 ∨ x = 2 ∨ x = 3 := by
  refine vin_4 (vp_in_iff.mpr ⟨by omega, by omega⟩)

section VCALL
variable {E : vE} {cc : ByteArray} {nL : Nat} {own : String} {Ts : List Cond} {tys : List (ClassId × FieldType)} {rm rm' : Room} {k n pc : Nat} {lv : List (Nat × Value)} {st rest As : List Value} {ws wc wr : va_W} {y : MethodName} {bytes : ByteArray} {maxL ix : Nat} {ret : Option FieldType} {wd wd' : List Cond} {S : Type}
theorem vpre_blind {D : va_G} {tys : List (ClassId × FieldType)} {sz : Nat} {wc : va_W} {as : List Value} : FrameBlind (va_Pc as (vPre D tys sz wc)) := fun a U g mk q => by
  obtain ⟨q0, q1, qP, qK, qD, qN⟩ := q
  exact ⟨q0, q1, qP, va_K.moved (u := U) (U := U.calling g mk a) (Vm.Alike.refl U.vm) qK, qD, vN.same (u := U) (U := U.calling g mk a) rfl qN⟩
theorem v_callVi (X : vX E cc nL own Ts tys rm) {C : String} {b ci N : Nat} {F : u_T} {fs : List Value} {Q' : Int32 → S → Prop} {post : S → va_W} (N0 q0 : Nat) (hC : vCi (vl E) (vD E) tys y wd rm' (.ref b :: As) wc Q' post) (hG : GoodIn Ts (wsV own ix C y wd)) (hw : wd = Cond.code y bytes maxL ret :: wd') (hn : As.length = N0) (hd : y.cls = C ∧ y.cls ≠ "java/lang/invoke/MethodHandle" ∧ y.cls ≠ "java/lang/invoke/VarHandle" ∧ (parseMethodDescriptor y.desc).map (fun d => d.parameters.length) = some N0) (hkn : k ≤ rm.cells ∧ n ≤ rm.slots) (hR : rm'.cells = 0 ∧ rm'.slots = 0 ∧ rm'.frames + 1 ≤ rm.frames ∧ 8 + (maxL + 11) + rm'.locals ≤ rm.locals) (hrest : (rest.map fun v => v.category).sum ≤ 8) (he : wc[q0]? = some (b, .inr (ci, fs))) (hc : vwCl[ci]? = some (C, F, N)) (isC isR : List Nat) (hCc : isC.map (fun i => ws[i]?) = wc.map some) (hRr : isR.map (fun i => ws[i]?) = wr.map some) (h1 : va_nd isC = true) (h2 : va_nd isR = true) (hdis : ∀ i ∈ isR, i ∉ isC) (hst : st = As.reverse ++ .ref b :: rest) (hdg : decode cc pc = .ok (.invokevirtual ix, 3)) (kk : ∀ (r : Int32) (u : S), Q' r u → V E k n (pc + 3) lv (.int r :: rest) (wr ++ post u)) : V E k n pc lv st ws := by
  obtain ⟨p, l, e, R, s, m, args, below, meth, c, Qe, D, A⟩ := E
  obtain ⟨hx, hb, hml, hown, hts, hK, hA, hN, hRm⟩ := X
  subst hRm
  subst hst
  intro H locs ls hP hD hS h
  have hPc : va_P D vwCl wc H := fun i q hq => by
    have h3 : (isC.map (fun i => ws[i]?))[i]? = some (some q) := by rw [hCc, List.getElem?_map, hq]; rfl
    rw [List.getElem?_map] at h3
    cases hj : isC[i]? with
    | none => rw [hj] at h3; cases h3
    | some j => rw [hj] at h3; exact hP j q (Option.some.inj h3)
  have hDc := hD.sub isC h1 hCc
  have hFc := va_free hD hS hA isC hCc
  refine va_calli (va_runV (As := As) (rest := rest) ⟨hx, hb, hml, hown, hts⟩ (hC H.size) (cwV N0 hts hG hw hR.1 hR.2.1 hd ⟨hR.2.2.1, hR.2.2.2⟩) ⟨vpre_blind, va_recv hK hPc hc he, fun U hU hW => ⟨rfl, by rw [hU], by rw [hU]; exact hPc, va_K.moved hW.alike hK, hDc.weaken (fun _ _ _ _ => trivial), vN.warm hW hN⟩⟩ rfl hn (h.1.trans hml) rfl (lv_room hrest) hdg ⟨hkn.1, hkn.2⟩) hS (fun q _ h => hFc q h) hFc (fun r u t H1 locs1 ht hvm hw hB hz1 hk1 hS => ?_)
  obtain ⟨hP1, hD1⟩ := hB
  rw [ht] at hP1
  obtain ⟨hP, hD⟩ := va_join hP hD isC isR hCc hRr h2 hdis hk1 hFc hP1 hD1
  exact kk r u hw H1 locs1 ls hP hD hS h
theorem v_callSi (X : vX E cc nL own Ts tys rm) {Q' : Int32 → S → Prop} {post : S → va_W} (N0 : Nat) (hC : vCi (vl E) (vD E) tys y wd rm' As wc Q' post) (hG : GoodIn Ts (va_wsS own ix y wd)) (hw : wd = Cond.code y bytes maxL ret :: wd') (hn : As.length = N0) (hd : y.cls ≠ "java/lang/invoke/MethodHandle" ∧ y.cls ≠ "java/lang/invoke/VarHandle" ∧ (parseMethodDescriptor y.desc).map (fun d => d.parameters.length) = some N0) (hkn : k ≤ rm.cells ∧ n ≤ rm.slots) (hR : rm'.cells = 0 ∧ rm'.slots = 0 ∧ rm'.frames + 1 ≤ rm.frames ∧ 8 + (maxL + 11) + rm'.locals ≤ rm.locals) (hrest : (rest.map fun v => v.category).sum ≤ 8) (isC isR : List Nat) (hCc : isC.map (fun i => ws[i]?) = wc.map some) (hRr : isR.map (fun i => ws[i]?) = wr.map some) (h1 : va_nd isC = true) (h2 : va_nd isR = true) (hdis : ∀ i ∈ isR, i ∉ isC) (hst : st = As.reverse ++ rest) (hdg : decode cc pc = .ok (.invokestatic ix, 3)) (kk : ∀ (r : Int32) (u : S), Q' r u → V E k n (pc + 3) lv (.int r :: rest) (wr ++ post u)) : V E k n pc lv st ws := by
  obtain ⟨p, l, e, R, s, m, args, below, meth, c, Qe, D, A⟩ := E
  obtain ⟨hx, hb, hml, hown, hts, hK, hA, hN, hRm⟩ := X
  subst hRm
  subst hst
  intro H locs ls hP hD hS h
  have hPc : va_P D vwCl wc H := fun i q hq => by
    have h3 : (isC.map (fun i => ws[i]?))[i]? = some (some q) := by rw [hCc, List.getElem?_map, hq]; rfl
    rw [List.getElem?_map] at h3
    cases hj : isC[i]? with
    | none => rw [hj] at h3; cases h3
    | some j => rw [hj] at h3; exact hP j q (Option.some.inj h3)
  have hDc := hD.sub isC h1 hCc
  have hFc := va_free hD hS hA isC hCc
  refine va_calli (va_runS (As := As) (rest := rest) ⟨hx, hb, hml, hown, hts⟩ (hC H.size) (va_cwS N0 hts hG hw hR.1 hR.2.1 hd ⟨hR.2.2.1, hR.2.2.2⟩) ⟨vpre_blind, fun U hU hW => ⟨rfl, by rw [hU], by rw [hU]; exact hPc, va_K.moved hW.alike hK, hDc.weaken (fun _ _ _ _ => trivial), vN.warm hW hN⟩⟩ rfl hn (h.1.trans hml) rfl (lv_room hrest) hdg ⟨hkn.1, hkn.2⟩) hS (fun q _ h => hFc q h) hFc (fun r u t H1 locs1 ht hvm hw hB hz1 hk1 hS => ?_)
  obtain ⟨hP1, hD1⟩ := hB
  rw [ht] at hP1
  obtain ⟨hP, hD⟩ := va_join hP hD isC isR hCc hRr h2 hdis hk1 hFc hP1 hD1
  exact kk r u hw H1 locs1 ls hP hD hS h
theorem v_callNi (X : vX E cc nL own Ts tys rm) {host : String} {Q' : Int32 → S → Prop} {post : S → va_W} (N0 : Nat) (hC : vCi (vl E) (vD E) tys y wd rm' As wc Q' post) (hG : GoodIn Ts wd) (hl : Cond.methodLinkNest own ix y host ∈ vNw) (hini : Cond.initialized y.cls ∈ Ts) (hstc : Cond.static y ∈ Ts) (hw : wd = Cond.code y bytes maxL ret :: wd') (hn : As.length = N0) (hd : y.cls ≠ "java/lang/invoke/MethodHandle" ∧ y.cls ≠ "java/lang/invoke/VarHandle" ∧ (parseMethodDescriptor y.desc).map (fun d => d.parameters.length) = some N0) (hkn : k ≤ rm.cells ∧ n ≤ rm.slots) (hR : rm'.cells = 0 ∧ rm'.slots = 0 ∧ rm'.frames + 1 ≤ rm.frames ∧ 8 + (maxL + 11) + rm'.locals ≤ rm.locals) (hrest : (rest.map fun v => v.category).sum ≤ 8) (isC isR : List Nat) (hCc : isC.map (fun i => ws[i]?) = wc.map some) (hRr : isR.map (fun i => ws[i]?) = wr.map some) (h1 : va_nd isC = true) (h2 : va_nd isR = true) (hdis : ∀ i ∈ isR, i ∉ isC) (hst : st = As.reverse ++ rest) (hdg : decode cc pc = .ok (.invokestatic ix, 3)) (kk : ∀ (r : Int32) (u : S), Q' r u → V E k n (pc + 3) lv (.int r :: rest) (wr ++ post u)) : V E k n pc lv st ws := by
  obtain ⟨p, l, e, R, s, m, args, below, meth, c, Qe, D, A⟩ := E
  obtain ⟨hx, hb, hml, hown, hts, hK, hA, hN, hRm⟩ := X
  subst hRm
  subst hst
  intro H locs ls hP hD hS h
  have hPc : va_P D vwCl wc H := fun i q hq => by
    have h3 : (isC.map (fun i => ws[i]?))[i]? = some (some q) := by rw [hCc, List.getElem?_map, hq]; rfl
    rw [List.getElem?_map] at h3
    cases hj : isC[i]? with
    | none => rw [hj] at h3; cases h3
    | some j => rw [hj] at h3; exact hP j q (Option.some.inj h3)
  have hDc := hD.sub isC h1 hCc
  have hFc := va_free hD hS hA isC hCc
  refine va_calli (va_runSN (As := As) (rest := rest) ⟨hx, hb, hml, hown, hts⟩ (hC H.size) ⟨va_cnB N0 hts hG hw hR.1 hR.2.1 (hN _ hl) (hts _ hini) hd ⟨hR.2.2.1, hR.2.2.2⟩, hts _ hstc, trivial⟩ ⟨vpre_blind, fun U hU hW => ⟨rfl, by rw [hU], by rw [hU]; exact hPc, va_K.moved hW.alike hK, hDc.weaken (fun _ _ _ _ => trivial), vN.warm hW hN⟩⟩ rfl hn (h.1.trans hml) rfl (lv_room hrest) hdg ⟨hkn.1, hkn.2⟩) hS (fun q _ h => hFc q h) hFc (fun r u t H1 locs1 ht hvm hw hB hz1 hk1 hS => ?_)
  obtain ⟨hP1, hD1⟩ := hB
  rw [ht] at hP1
  obtain ⟨hP, hD⟩ := va_join hP hD isC isR hCc hRr h2 hdis hk1 hFc hP1 hD1
  exact kk r u hw H1 locs1 ls hP hD hS h
theorem v_callVl (X : vX E cc nL own Ts tys rm) {C : String} {b ci N : Nat} {F : u_T} {fs : List Value} {Q' : Int64 → S → Prop} {post : S → va_W} (N0 q0 : Nat) (hC : vCl (vl E) (vD E) tys y wd rm' (.ref b :: As) wc Q' post) (hG : GoodIn Ts (wsV own ix C y wd)) (hw : wd = Cond.code y bytes maxL ret :: wd') (hn : As.length = N0) (hd : y.cls = C ∧ y.cls ≠ "java/lang/invoke/MethodHandle" ∧ y.cls ≠ "java/lang/invoke/VarHandle" ∧ (parseMethodDescriptor y.desc).map (fun d => d.parameters.length) = some N0) (hkn : k ≤ rm.cells ∧ n ≤ rm.slots) (hR : rm'.cells = 0 ∧ rm'.slots = 0 ∧ rm'.frames + 1 ≤ rm.frames ∧ 8 + (maxL + 11) + rm'.locals ≤ rm.locals) (hrest : (rest.map fun v => v.category).sum ≤ 8) (he : wc[q0]? = some (b, .inr (ci, fs))) (hc : vwCl[ci]? = some (C, F, N)) (isC isR : List Nat) (hCc : isC.map (fun i => ws[i]?) = wc.map some) (hRr : isR.map (fun i => ws[i]?) = wr.map some) (h1 : va_nd isC = true) (h2 : va_nd isR = true) (hdis : ∀ i ∈ isR, i ∉ isC) (hst : st = As.reverse ++ .ref b :: rest) (hdg : decode cc pc = .ok (.invokevirtual ix, 3)) (kk : ∀ (r : Int64) (u : S), Q' r u → V E k n (pc + 3) lv (.long r :: rest) (wr ++ post u)) : V E k n pc lv st ws := by
  obtain ⟨p, l, e, R, s, m, args, below, meth, c, Qe, D, A⟩ := E
  obtain ⟨hx, hb, hml, hown, hts, hK, hA, hN, hRm⟩ := X
  subst hRm
  subst hst
  intro H locs ls hP hD hS h
  have hPc : va_P D vwCl wc H := fun i q hq => by
    have h3 : (isC.map (fun i => ws[i]?))[i]? = some (some q) := by rw [hCc, List.getElem?_map, hq]; rfl
    rw [List.getElem?_map] at h3
    cases hj : isC[i]? with
    | none => rw [hj] at h3; cases h3
    | some j => rw [hj] at h3; exact hP j q (Option.some.inj h3)
  have hDc := hD.sub isC h1 hCc
  have hFc := va_free hD hS hA isC hCc
  refine va_calll (va_runV (As := As) (rest := rest) ⟨hx, hb, hml, hown, hts⟩ (hC H.size) (cwV N0 hts hG hw hR.1 hR.2.1 hd ⟨hR.2.2.1, hR.2.2.2⟩) ⟨vpre_blind, va_recv hK hPc hc he, fun U hU hW => ⟨rfl, by rw [hU], by rw [hU]; exact hPc, va_K.moved hW.alike hK, hDc.weaken (fun _ _ _ _ => trivial), vN.warm hW hN⟩⟩ rfl hn (h.1.trans hml) rfl (lv_room hrest) hdg ⟨hkn.1, hkn.2⟩) hS (fun q _ h => hFc q h) hFc (fun r u t H1 locs1 ht hvm hw hB hz1 hk1 hS => ?_)
  obtain ⟨hP1, hD1⟩ := hB
  rw [ht] at hP1
  obtain ⟨hP, hD⟩ := va_join hP hD isC isR hCc hRr h2 hdis hk1 hFc hP1 hD1
  exact kk r u hw H1 locs1 ls hP hD hS h
theorem v_callSl (X : vX E cc nL own Ts tys rm) {Q' : Int64 → S → Prop} {post : S → va_W} (N0 : Nat) (hC : vCl (vl E) (vD E) tys y wd rm' As wc Q' post) (hG : GoodIn Ts (va_wsS own ix y wd)) (hw : wd = Cond.code y bytes maxL ret :: wd') (hn : As.length = N0) (hd : y.cls ≠ "java/lang/invoke/MethodHandle" ∧ y.cls ≠ "java/lang/invoke/VarHandle" ∧ (parseMethodDescriptor y.desc).map (fun d => d.parameters.length) = some N0) (hkn : k ≤ rm.cells ∧ n ≤ rm.slots) (hR : rm'.cells = 0 ∧ rm'.slots = 0 ∧ rm'.frames + 1 ≤ rm.frames ∧ 8 + (maxL + 11) + rm'.locals ≤ rm.locals) (hrest : (rest.map fun v => v.category).sum ≤ 8) (isC isR : List Nat) (hCc : isC.map (fun i => ws[i]?) = wc.map some) (hRr : isR.map (fun i => ws[i]?) = wr.map some) (h1 : va_nd isC = true) (h2 : va_nd isR = true) (hdis : ∀ i ∈ isR, i ∉ isC) (hst : st = As.reverse ++ rest) (hdg : decode cc pc = .ok (.invokestatic ix, 3)) (kk : ∀ (r : Int64) (u : S), Q' r u → V E k n (pc + 3) lv (.long r :: rest) (wr ++ post u)) : V E k n pc lv st ws := by
  obtain ⟨p, l, e, R, s, m, args, below, meth, c, Qe, D, A⟩ := E
  obtain ⟨hx, hb, hml, hown, hts, hK, hA, hN, hRm⟩ := X
  subst hRm
  subst hst
  intro H locs ls hP hD hS h
  have hPc : va_P D vwCl wc H := fun i q hq => by
    have h3 : (isC.map (fun i => ws[i]?))[i]? = some (some q) := by rw [hCc, List.getElem?_map, hq]; rfl
    rw [List.getElem?_map] at h3
    cases hj : isC[i]? with
    | none => rw [hj] at h3; cases h3
    | some j => rw [hj] at h3; exact hP j q (Option.some.inj h3)
  have hDc := hD.sub isC h1 hCc
  have hFc := va_free hD hS hA isC hCc
  refine va_calll (va_runS (As := As) (rest := rest) ⟨hx, hb, hml, hown, hts⟩ (hC H.size) (va_cwS N0 hts hG hw hR.1 hR.2.1 hd ⟨hR.2.2.1, hR.2.2.2⟩) ⟨vpre_blind, fun U hU hW => ⟨rfl, by rw [hU], by rw [hU]; exact hPc, va_K.moved hW.alike hK, hDc.weaken (fun _ _ _ _ => trivial), vN.warm hW hN⟩⟩ rfl hn (h.1.trans hml) rfl (lv_room hrest) hdg ⟨hkn.1, hkn.2⟩) hS (fun q _ h => hFc q h) hFc (fun r u t H1 locs1 ht hvm hw hB hz1 hk1 hS => ?_)
  obtain ⟨hP1, hD1⟩ := hB
  rw [ht] at hP1
  obtain ⟨hP, hD⟩ := va_join hP hD isC isR hCc hRr h2 hdis hk1 hFc hP1 hD1
  exact kk r u hw H1 locs1 ls hP hD hS h
theorem v_callNl (X : vX E cc nL own Ts tys rm) {host : String} {Q' : Int64 → S → Prop} {post : S → va_W} (N0 : Nat) (hC : vCl (vl E) (vD E) tys y wd rm' As wc Q' post) (hG : GoodIn Ts wd) (hl : Cond.methodLinkNest own ix y host ∈ vNw) (hini : Cond.initialized y.cls ∈ Ts) (hstc : Cond.static y ∈ Ts) (hw : wd = Cond.code y bytes maxL ret :: wd') (hn : As.length = N0) (hd : y.cls ≠ "java/lang/invoke/MethodHandle" ∧ y.cls ≠ "java/lang/invoke/VarHandle" ∧ (parseMethodDescriptor y.desc).map (fun d => d.parameters.length) = some N0) (hkn : k ≤ rm.cells ∧ n ≤ rm.slots) (hR : rm'.cells = 0 ∧ rm'.slots = 0 ∧ rm'.frames + 1 ≤ rm.frames ∧ 8 + (maxL + 11) + rm'.locals ≤ rm.locals) (hrest : (rest.map fun v => v.category).sum ≤ 8) (isC isR : List Nat) (hCc : isC.map (fun i => ws[i]?) = wc.map some) (hRr : isR.map (fun i => ws[i]?) = wr.map some) (h1 : va_nd isC = true) (h2 : va_nd isR = true) (hdis : ∀ i ∈ isR, i ∉ isC) (hst : st = As.reverse ++ rest) (hdg : decode cc pc = .ok (.invokestatic ix, 3)) (kk : ∀ (r : Int64) (u : S), Q' r u → V E k n (pc + 3) lv (.long r :: rest) (wr ++ post u)) : V E k n pc lv st ws := by
  obtain ⟨p, l, e, R, s, m, args, below, meth, c, Qe, D, A⟩ := E
  obtain ⟨hx, hb, hml, hown, hts, hK, hA, hN, hRm⟩ := X
  subst hRm
  subst hst
  intro H locs ls hP hD hS h
  have hPc : va_P D vwCl wc H := fun i q hq => by
    have h3 : (isC.map (fun i => ws[i]?))[i]? = some (some q) := by rw [hCc, List.getElem?_map, hq]; rfl
    rw [List.getElem?_map] at h3
    cases hj : isC[i]? with
    | none => rw [hj] at h3; cases h3
    | some j => rw [hj] at h3; exact hP j q (Option.some.inj h3)
  have hDc := hD.sub isC h1 hCc
  have hFc := va_free hD hS hA isC hCc
  refine va_calll (va_runSN (As := As) (rest := rest) ⟨hx, hb, hml, hown, hts⟩ (hC H.size) ⟨va_cnB N0 hts hG hw hR.1 hR.2.1 (hN _ hl) (hts _ hini) hd ⟨hR.2.2.1, hR.2.2.2⟩, hts _ hstc, trivial⟩ ⟨vpre_blind, fun U hU hW => ⟨rfl, by rw [hU], by rw [hU]; exact hPc, va_K.moved hW.alike hK, hDc.weaken (fun _ _ _ _ => trivial), vN.warm hW hN⟩⟩ rfl hn (h.1.trans hml) rfl (lv_room hrest) hdg ⟨hkn.1, hkn.2⟩) hS (fun q _ h => hFc q h) hFc (fun r u t H1 locs1 ht hvm hw hB hz1 hk1 hS => ?_)
  obtain ⟨hP1, hD1⟩ := hB
  rw [ht] at hP1
  obtain ⟨hP, hD⟩ := va_join hP hD isC isR hCc hRr h2 hdis hk1 hFc hP1 hD1
  exact kk r u hw H1 locs1 ls hP hD hS h
theorem v_callVv (X : vX E cc nL own Ts tys rm) {C : String} {b ci N : Nat} {F : u_T} {fs : List Value} {Q' : S → Prop} {post : S → va_W} (N0 q0 : Nat) (hC : vCv (vl E) (vD E) tys y wd rm' (.ref b :: As) wc Q' post) (hG : GoodIn Ts (wsV own ix C y wd)) (hw : wd = Cond.code y bytes maxL ret :: wd') (hn : As.length = N0) (hd : y.cls = C ∧ y.cls ≠ "java/lang/invoke/MethodHandle" ∧ y.cls ≠ "java/lang/invoke/VarHandle" ∧ (parseMethodDescriptor y.desc).map (fun d => d.parameters.length) = some N0) (hkn : k ≤ rm.cells ∧ n ≤ rm.slots) (hR : rm'.cells = 0 ∧ rm'.slots = 0 ∧ rm'.frames + 1 ≤ rm.frames ∧ 8 + (maxL + 11) + rm'.locals ≤ rm.locals) (hrest : (rest.map fun v => v.category).sum ≤ 8) (he : wc[q0]? = some (b, .inr (ci, fs))) (hc : vwCl[ci]? = some (C, F, N)) (isC isR : List Nat) (hCc : isC.map (fun i => ws[i]?) = wc.map some) (hRr : isR.map (fun i => ws[i]?) = wr.map some) (h1 : va_nd isC = true) (h2 : va_nd isR = true) (hdis : ∀ i ∈ isR, i ∉ isC) (hst : st = As.reverse ++ .ref b :: rest) (hdg : decode cc pc = .ok (.invokevirtual ix, 3)) (kk : ∀ u : S, Q' u → V E k n (pc + 3) lv rest (wr ++ post u)) : V E k n pc lv st ws := by
  obtain ⟨p, l, e, R, s, m, args, below, meth, c, Qe, D, A⟩ := E
  obtain ⟨hx, hb, hml, hown, hts, hK, hA, hN, hRm⟩ := X
  subst hRm
  subst hst
  intro H locs ls hP hD hS h
  have hPc : va_P D vwCl wc H := fun i q hq => by
    have h3 : (isC.map (fun i => ws[i]?))[i]? = some (some q) := by rw [hCc, List.getElem?_map, hq]; rfl
    rw [List.getElem?_map] at h3
    cases hj : isC[i]? with
    | none => rw [hj] at h3; cases h3
    | some j => rw [hj] at h3; exact hP j q (Option.some.inj h3)
  have hDc := hD.sub isC h1 hCc
  have hFc := va_free hD hS hA isC hCc
  refine va_callv (va_runV (As := As) (rest := rest) ⟨hx, hb, hml, hown, hts⟩ (hC H.size) (cwV N0 hts hG hw hR.1 hR.2.1 hd ⟨hR.2.2.1, hR.2.2.2⟩) ⟨vpre_blind, va_recv hK hPc hc he, fun U hU hW => ⟨rfl, by rw [hU], by rw [hU]; exact hPc, va_K.moved hW.alike hK, hDc.weaken (fun _ _ _ _ => trivial), vN.warm hW hN⟩⟩ rfl hn (h.1.trans hml) rfl (lv_room hrest) hdg ⟨hkn.1, hkn.2⟩) hS (fun q _ h => hFc q h) hFc (fun u t H1 locs1 ht hvm hw hB hz1 hk1 hS => ?_)
  obtain ⟨hP1, hD1⟩ := hB
  rw [ht] at hP1
  obtain ⟨hP, hD⟩ := va_join hP hD isC isR hCc hRr h2 hdis hk1 hFc hP1 hD1
  exact kk u hw H1 locs1 ls hP hD hS h
theorem v_callSv (X : vX E cc nL own Ts tys rm) {Q' : S → Prop} {post : S → va_W} (N0 : Nat) (hC : vCv (vl E) (vD E) tys y wd rm' As wc Q' post) (hG : GoodIn Ts (va_wsS own ix y wd)) (hw : wd = Cond.code y bytes maxL ret :: wd') (hn : As.length = N0) (hd : y.cls ≠ "java/lang/invoke/MethodHandle" ∧ y.cls ≠ "java/lang/invoke/VarHandle" ∧ (parseMethodDescriptor y.desc).map (fun d => d.parameters.length) = some N0) (hkn : k ≤ rm.cells ∧ n ≤ rm.slots) (hR : rm'.cells = 0 ∧ rm'.slots = 0 ∧ rm'.frames + 1 ≤ rm.frames ∧ 8 + (maxL + 11) + rm'.locals ≤ rm.locals) (hrest : (rest.map fun v => v.category).sum ≤ 8) (isC isR : List Nat) (hCc : isC.map (fun i => ws[i]?) = wc.map some) (hRr : isR.map (fun i => ws[i]?) = wr.map some) (h1 : va_nd isC = true) (h2 : va_nd isR = true) (hdis : ∀ i ∈ isR, i ∉ isC) (hst : st = As.reverse ++ rest) (hdg : decode cc pc = .ok (.invokestatic ix, 3)) (kk : ∀ u : S, Q' u → V E k n (pc + 3) lv rest (wr ++ post u)) : V E k n pc lv st ws := by
  obtain ⟨p, l, e, R, s, m, args, below, meth, c, Qe, D, A⟩ := E
  obtain ⟨hx, hb, hml, hown, hts, hK, hA, hN, hRm⟩ := X
  subst hRm
  subst hst
  intro H locs ls hP hD hS h
  have hPc : va_P D vwCl wc H := fun i q hq => by
    have h3 : (isC.map (fun i => ws[i]?))[i]? = some (some q) := by rw [hCc, List.getElem?_map, hq]; rfl
    rw [List.getElem?_map] at h3
    cases hj : isC[i]? with
    | none => rw [hj] at h3; cases h3
    | some j => rw [hj] at h3; exact hP j q (Option.some.inj h3)
  have hDc := hD.sub isC h1 hCc
  have hFc := va_free hD hS hA isC hCc
  refine va_callv (va_runS (As := As) (rest := rest) ⟨hx, hb, hml, hown, hts⟩ (hC H.size) (va_cwS N0 hts hG hw hR.1 hR.2.1 hd ⟨hR.2.2.1, hR.2.2.2⟩) ⟨vpre_blind, fun U hU hW => ⟨rfl, by rw [hU], by rw [hU]; exact hPc, va_K.moved hW.alike hK, hDc.weaken (fun _ _ _ _ => trivial), vN.warm hW hN⟩⟩ rfl hn (h.1.trans hml) rfl (lv_room hrest) hdg ⟨hkn.1, hkn.2⟩) hS (fun q _ h => hFc q h) hFc (fun u t H1 locs1 ht hvm hw hB hz1 hk1 hS => ?_)
  obtain ⟨hP1, hD1⟩ := hB
  rw [ht] at hP1
  obtain ⟨hP, hD⟩ := va_join hP hD isC isR hCc hRr h2 hdis hk1 hFc hP1 hD1
  exact kk u hw H1 locs1 ls hP hD hS h
theorem v_callNv (X : vX E cc nL own Ts tys rm) {host : String} {Q' : S → Prop} {post : S → va_W} (N0 : Nat) (hC : vCv (vl E) (vD E) tys y wd rm' As wc Q' post) (hG : GoodIn Ts wd) (hl : Cond.methodLinkNest own ix y host ∈ vNw) (hini : Cond.initialized y.cls ∈ Ts) (hstc : Cond.static y ∈ Ts) (hw : wd = Cond.code y bytes maxL ret :: wd') (hn : As.length = N0) (hd : y.cls ≠ "java/lang/invoke/MethodHandle" ∧ y.cls ≠ "java/lang/invoke/VarHandle" ∧ (parseMethodDescriptor y.desc).map (fun d => d.parameters.length) = some N0) (hkn : k ≤ rm.cells ∧ n ≤ rm.slots) (hR : rm'.cells = 0 ∧ rm'.slots = 0 ∧ rm'.frames + 1 ≤ rm.frames ∧ 8 + (maxL + 11) + rm'.locals ≤ rm.locals) (hrest : (rest.map fun v => v.category).sum ≤ 8) (isC isR : List Nat) (hCc : isC.map (fun i => ws[i]?) = wc.map some) (hRr : isR.map (fun i => ws[i]?) = wr.map some) (h1 : va_nd isC = true) (h2 : va_nd isR = true) (hdis : ∀ i ∈ isR, i ∉ isC) (hst : st = As.reverse ++ rest) (hdg : decode cc pc = .ok (.invokestatic ix, 3)) (kk : ∀ u : S, Q' u → V E k n (pc + 3) lv rest (wr ++ post u)) : V E k n pc lv st ws := by
  obtain ⟨p, l, e, R, s, m, args, below, meth, c, Qe, D, A⟩ := E
  obtain ⟨hx, hb, hml, hown, hts, hK, hA, hN, hRm⟩ := X
  subst hRm
  subst hst
  intro H locs ls hP hD hS h
  have hPc : va_P D vwCl wc H := fun i q hq => by
    have h3 : (isC.map (fun i => ws[i]?))[i]? = some (some q) := by rw [hCc, List.getElem?_map, hq]; rfl
    rw [List.getElem?_map] at h3
    cases hj : isC[i]? with
    | none => rw [hj] at h3; cases h3
    | some j => rw [hj] at h3; exact hP j q (Option.some.inj h3)
  have hDc := hD.sub isC h1 hCc
  have hFc := va_free hD hS hA isC hCc
  refine va_callv (va_runSN (As := As) (rest := rest) ⟨hx, hb, hml, hown, hts⟩ (hC H.size) ⟨va_cnB N0 hts hG hw hR.1 hR.2.1 (hN _ hl) (hts _ hini) hd ⟨hR.2.2.1, hR.2.2.2⟩, hts _ hstc, trivial⟩ ⟨vpre_blind, fun U hU hW => ⟨rfl, by rw [hU], by rw [hU]; exact hPc, va_K.moved hW.alike hK, hDc.weaken (fun _ _ _ _ => trivial), vN.warm hW hN⟩⟩ rfl hn (h.1.trans hml) rfl (lv_room hrest) hdg ⟨hkn.1, hkn.2⟩) hS (fun q _ h => hFc q h) hFc (fun u t H1 locs1 ht hvm hw hB hz1 hk1 hS => ?_)
  obtain ⟨hP1, hD1⟩ := hB
  rw [ht] at hP1
  obtain ⟨hP, hD⟩ := va_join hP hD isC isR hCc hRr h2 hdis hk1 hFc hP1 hD1
  exact kk u hw H1 locs1 ls hP hD hS h
theorem v_callSi0 (X : vX E cc nL own Ts tys rm) {Q' : Int32 → Unit → Prop} {post : Unit → va_W} (N0 : Nat) (hC : vCi (vl E) (vD E) tys y wd rm' As [] Q' post) (hG : GoodIn Ts (va_wsS own ix y wd)) (hw : wd = Cond.code y bytes maxL ret :: wd') (hn : As.length = N0) (hd : y.cls ≠ "java/lang/invoke/MethodHandle" ∧ y.cls ≠ "java/lang/invoke/VarHandle" ∧ (parseMethodDescriptor y.desc).map (fun d => d.parameters.length) = some N0) (hkn : k ≤ rm.cells ∧ n ≤ rm.slots) (hR : rm'.cells = 0 ∧ rm'.slots = 0 ∧ rm'.frames + 1 ≤ rm.frames ∧ 8 + (maxL + 11) + rm'.locals ≤ rm.locals) (hrest : (rest.map fun v => v.category).sum ≤ 8) (hst : st = As.reverse ++ rest) (hdg : decode cc pc = .ok (.invokestatic ix, 3)) (kk : ∀ (r : Int32), Q' r () → V E k n (pc + 3) lv (.int r :: rest) ws) : V E k n pc lv st ws := by
  obtain ⟨p, l, e, R, s, m, args, below, meth, c, Qe, D, A⟩ := E
  obtain ⟨hx, hb, hml, hown, hts, hK, hA, hN, hRm⟩ := X
  subst hRm
  subst hst
  intro H locs ls hP hD hS h
  have hFc : ∀ q, va_A [] H.size q → A q := fun q z => by
    rcases z with ⟨i, e9, z⟩ | z
    · simp at z
    · exact hA q (Nat.le_trans hS.1 z)
  refine va_calli (va_runS (As := As) (rest := rest) ⟨hx, hb, hml, hown, hts⟩ (hC H.size) (va_cwS N0 hts hG hw hR.1 hR.2.1 hd ⟨hR.2.2.1, hR.2.2.2⟩) ⟨vpre_blind, fun U hU hW => ⟨rfl, by rw [hU], (fun i q h => by simp at h), va_K.moved hW.alike hK, ⟨fun i j p q h => by simp at h, fun i q h => by simp at h⟩, vN.warm hW hN⟩⟩ rfl hn (h.1.trans hml) rfl (lv_room hrest) hdg ⟨hkn.1, hkn.2⟩) hS (fun q _ h => hFc q h) hFc (fun r u t H1 locs1 ht hvm hw hB hz1 hk1 hS => ?_)
  refine kk r hw H1 locs1 ls (hP.kept (fun i q hq => hk1 q.1 ((hP i q hq).lt) (fun z => ?_))) hD hS h
  rcases z with ⟨i9, e9, z⟩ | z
  · simp at z
  · have := (hP i q hq).lt
    omega
theorem v_callNi0 (X : vX E cc nL own Ts tys rm) {host : String} {Q' : Int32 → Unit → Prop} {post : Unit → va_W} (N0 : Nat) (hC : vCi (vl E) (vD E) tys y wd rm' As [] Q' post) (hG : GoodIn Ts wd) (hl : Cond.methodLinkNest own ix y host ∈ vNw) (hini : Cond.initialized y.cls ∈ Ts) (hstc : Cond.static y ∈ Ts) (hw : wd = Cond.code y bytes maxL ret :: wd') (hn : As.length = N0) (hd : y.cls ≠ "java/lang/invoke/MethodHandle" ∧ y.cls ≠ "java/lang/invoke/VarHandle" ∧ (parseMethodDescriptor y.desc).map (fun d => d.parameters.length) = some N0) (hkn : k ≤ rm.cells ∧ n ≤ rm.slots) (hR : rm'.cells = 0 ∧ rm'.slots = 0 ∧ rm'.frames + 1 ≤ rm.frames ∧ 8 + (maxL + 11) + rm'.locals ≤ rm.locals) (hrest : (rest.map fun v => v.category).sum ≤ 8) (hst : st = As.reverse ++ rest) (hdg : decode cc pc = .ok (.invokestatic ix, 3)) (kk : ∀ (r : Int32), Q' r () → V E k n (pc + 3) lv (.int r :: rest) ws) : V E k n pc lv st ws := by
  obtain ⟨p, l, e, R, s, m, args, below, meth, c, Qe, D, A⟩ := E
  obtain ⟨hx, hb, hml, hown, hts, hK, hA, hN, hRm⟩ := X
  subst hRm
  subst hst
  intro H locs ls hP hD hS h
  have hFc : ∀ q, va_A [] H.size q → A q := fun q z => by
    rcases z with ⟨i, e9, z⟩ | z
    · simp at z
    · exact hA q (Nat.le_trans hS.1 z)
  refine va_calli (va_runSN (As := As) (rest := rest) ⟨hx, hb, hml, hown, hts⟩ (hC H.size) ⟨va_cnB N0 hts hG hw hR.1 hR.2.1 (hN _ hl) (hts _ hini) hd ⟨hR.2.2.1, hR.2.2.2⟩, hts _ hstc, trivial⟩ ⟨vpre_blind, fun U hU hW => ⟨rfl, by rw [hU], (fun i q h => by simp at h), va_K.moved hW.alike hK, ⟨fun i j p q h => by simp at h, fun i q h => by simp at h⟩, vN.warm hW hN⟩⟩ rfl hn (h.1.trans hml) rfl (lv_room hrest) hdg ⟨hkn.1, hkn.2⟩) hS (fun q _ h => hFc q h) hFc (fun r u t H1 locs1 ht hvm hw hB hz1 hk1 hS => ?_)
  refine kk r hw H1 locs1 ls (hP.kept (fun i q hq => hk1 q.1 ((hP i q hq).lt) (fun z => ?_))) hD hS h
  rcases z with ⟨i9, e9, z⟩ | z
  · simp at z
  · have := (hP i q hq).lt
    omega
theorem v_callSl0 (X : vX E cc nL own Ts tys rm) {Q' : Int64 → Unit → Prop} {post : Unit → va_W} (N0 : Nat) (hC : vCl (vl E) (vD E) tys y wd rm' As [] Q' post) (hG : GoodIn Ts (va_wsS own ix y wd)) (hw : wd = Cond.code y bytes maxL ret :: wd') (hn : As.length = N0) (hd : y.cls ≠ "java/lang/invoke/MethodHandle" ∧ y.cls ≠ "java/lang/invoke/VarHandle" ∧ (parseMethodDescriptor y.desc).map (fun d => d.parameters.length) = some N0) (hkn : k ≤ rm.cells ∧ n ≤ rm.slots) (hR : rm'.cells = 0 ∧ rm'.slots = 0 ∧ rm'.frames + 1 ≤ rm.frames ∧ 8 + (maxL + 11) + rm'.locals ≤ rm.locals) (hrest : (rest.map fun v => v.category).sum ≤ 8) (hst : st = As.reverse ++ rest) (hdg : decode cc pc = .ok (.invokestatic ix, 3)) (kk : ∀ (r : Int64), Q' r () → V E k n (pc + 3) lv (.long r :: rest) ws) : V E k n pc lv st ws := by
  obtain ⟨p, l, e, R, s, m, args, below, meth, c, Qe, D, A⟩ := E
  obtain ⟨hx, hb, hml, hown, hts, hK, hA, hN, hRm⟩ := X
  subst hRm
  subst hst
  intro H locs ls hP hD hS h
  have hFc : ∀ q, va_A [] H.size q → A q := fun q z => by
    rcases z with ⟨i, e9, z⟩ | z
    · simp at z
    · exact hA q (Nat.le_trans hS.1 z)
  refine va_calll (va_runS (As := As) (rest := rest) ⟨hx, hb, hml, hown, hts⟩ (hC H.size) (va_cwS N0 hts hG hw hR.1 hR.2.1 hd ⟨hR.2.2.1, hR.2.2.2⟩) ⟨vpre_blind, fun U hU hW => ⟨rfl, by rw [hU], (fun i q h => by simp at h), va_K.moved hW.alike hK, ⟨fun i j p q h => by simp at h, fun i q h => by simp at h⟩, vN.warm hW hN⟩⟩ rfl hn (h.1.trans hml) rfl (lv_room hrest) hdg ⟨hkn.1, hkn.2⟩) hS (fun q _ h => hFc q h) hFc (fun r u t H1 locs1 ht hvm hw hB hz1 hk1 hS => ?_)
  refine kk r hw H1 locs1 ls (hP.kept (fun i q hq => hk1 q.1 ((hP i q hq).lt) (fun z => ?_))) hD hS h
  rcases z with ⟨i9, e9, z⟩ | z
  · simp at z
  · have := (hP i q hq).lt
    omega
theorem v_callNl0 (X : vX E cc nL own Ts tys rm) {host : String} {Q' : Int64 → Unit → Prop} {post : Unit → va_W} (N0 : Nat) (hC : vCl (vl E) (vD E) tys y wd rm' As [] Q' post) (hG : GoodIn Ts wd) (hl : Cond.methodLinkNest own ix y host ∈ vNw) (hini : Cond.initialized y.cls ∈ Ts) (hstc : Cond.static y ∈ Ts) (hw : wd = Cond.code y bytes maxL ret :: wd') (hn : As.length = N0) (hd : y.cls ≠ "java/lang/invoke/MethodHandle" ∧ y.cls ≠ "java/lang/invoke/VarHandle" ∧ (parseMethodDescriptor y.desc).map (fun d => d.parameters.length) = some N0) (hkn : k ≤ rm.cells ∧ n ≤ rm.slots) (hR : rm'.cells = 0 ∧ rm'.slots = 0 ∧ rm'.frames + 1 ≤ rm.frames ∧ 8 + (maxL + 11) + rm'.locals ≤ rm.locals) (hrest : (rest.map fun v => v.category).sum ≤ 8) (hst : st = As.reverse ++ rest) (hdg : decode cc pc = .ok (.invokestatic ix, 3)) (kk : ∀ (r : Int64), Q' r () → V E k n (pc + 3) lv (.long r :: rest) ws) : V E k n pc lv st ws := by
  obtain ⟨p, l, e, R, s, m, args, below, meth, c, Qe, D, A⟩ := E
  obtain ⟨hx, hb, hml, hown, hts, hK, hA, hN, hRm⟩ := X
  subst hRm
  subst hst
  intro H locs ls hP hD hS h
  have hFc : ∀ q, va_A [] H.size q → A q := fun q z => by
    rcases z with ⟨i, e9, z⟩ | z
    · simp at z
    · exact hA q (Nat.le_trans hS.1 z)
  refine va_calll (va_runSN (As := As) (rest := rest) ⟨hx, hb, hml, hown, hts⟩ (hC H.size) ⟨va_cnB N0 hts hG hw hR.1 hR.2.1 (hN _ hl) (hts _ hini) hd ⟨hR.2.2.1, hR.2.2.2⟩, hts _ hstc, trivial⟩ ⟨vpre_blind, fun U hU hW => ⟨rfl, by rw [hU], (fun i q h => by simp at h), va_K.moved hW.alike hK, ⟨fun i j p q h => by simp at h, fun i q h => by simp at h⟩, vN.warm hW hN⟩⟩ rfl hn (h.1.trans hml) rfl (lv_room hrest) hdg ⟨hkn.1, hkn.2⟩) hS (fun q _ h => hFc q h) hFc (fun r u t H1 locs1 ht hvm hw hB hz1 hk1 hS => ?_)
  refine kk r hw H1 locs1 ls (hP.kept (fun i q hq => hk1 q.1 ((hP i q hq).lt) (fun z => ?_))) hD hS h
  rcases z with ⟨i9, e9, z⟩ | z
  · simp at z
  · have := (hP i q hq).lt
    omega
end VCALL
