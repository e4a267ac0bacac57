/-! ranks: the class divides, the reference multiplies across; rows are the same up to a unit -/
def isR (r : Nat) : Prop := r = 2 ∨ r = 3 ∨ r = 5
/-- what divides -/
def ivF (r v : Nat) : Nat := if v * 1 % r = 1 then 1 else if v * 2 % r = 1 then 2 else if v * 3 % r = 1 then 3 else 4
theorem ivF_2 : ∀ v, v < 2 → 1 ≤ v → 1 ≤ ivF 2 v ∧ ivF 2 v < 2 ∧ v * ivF 2 v % 2 = 1 ∧ ∀ i, i < ivF 2 v → 1 ≤ i → v * i % 2 ≠ 1 := by decide
theorem ivF_3 : ∀ v, v < 3 → 1 ≤ v → 1 ≤ ivF 3 v ∧ ivF 3 v < 3 ∧ v * ivF 3 v % 3 = 1 ∧ ∀ i, i < ivF 3 v → 1 ≤ i → v * i % 3 ≠ 1 := by decide
theorem ivF_5 : ∀ v, v < 5 → 1 ≤ v → 1 ≤ ivF 5 v ∧ ivF 5 v < 5 ∧ v * ivF 5 v % 5 = 1 ∧ ∀ i, i < ivF 5 v → 1 ≤ i → v * i % 5 ≠ 1 := by decide
theorem ivF_r {r : Nat} (hr : isR r) {v : Nat} (h1 : 1 ≤ v) (h2 : v < r) : 1 ≤ ivF r v ∧ ivF r v < r ∧ v * ivF r v % r = 1 ∧ ∀ i, i < ivF r v → 1 ≤ i → v * i % r ≠ 1 := by
  rcases hr with rfl | rfl | rfl
  · exact ivF_2 v h2 h1
  · exact ivF_3 v h2 h1
  · exact ivF_5 v h2 h1
def nwA (r ac ap kp kc : Nat) : Nat := (ac + (r - 1) * ((ap * ivF r kp % r) * kc)) % r
theorem vrem_2 : ∀ n, n < 26 → vrem (nI n) (nI 2) = nI (n % 2) := by decide +kernel
theorem vrem_3 : ∀ n, n < 26 → vrem (nI n) (nI 3) = nI (n % 3) := by decide +kernel
theorem vrem_5 : ∀ n, n < 26 → vrem (nI n) (nI 5) = nI (n % 5) := by decide +kernel
theorem vrem_r {r : Nat} (hr : isR r) {n : Nat} (h : n < 26) : vrem (nI n) (nI r) = nI (n % r) := by
  rcases hr with rfl | rfl | rfl
  · exact vrem_2 n h
  · exact vrem_3 n h
  · exact vrem_5 n h
def fmV (x y : Int32) : Int32 := if 0 ≤ (x ^^^ y) then vrem x y else if vrem x y = 0 then vrem x y else vrem x y + y
theorem s_floorMod {x y : Int32} (hy : ¬ y = 0) {Q : Int32 → Prop} (h : Q (fmV x y)) : w_J9_floorMod_7cf53 x y Q := by
  unfold fmV at h
  refine ⟨hy, fun c => ?_, fun c => ⟨fun d => ?_, fun d => ?_⟩⟩
  · rw [if_pos c] at h; exact h
  · rw [if_neg c, if_pos d] at h; exact h
  · rw [if_neg c, if_neg d] at h; exact h
theorem fmv_2 : ∀ a, a < 5 → ∀ b, b < 17 → fmV (nI a - nI b) (nI 2) = nI ((a + (2 - 1) * b) % 2) := by decide +kernel
theorem fmv_3 : ∀ a, a < 5 → ∀ b, b < 17 → fmV (nI a - nI b) (nI 3) = nI ((a + (3 - 1) * b) % 3) := by decide +kernel
theorem fmv_5 : ∀ a, a < 5 → ∀ b, b < 17 → fmV (nI a - nI b) (nI 5) = nI ((a + (5 - 1) * b) % 5) := by decide +kernel
theorem fmv_r {r : Nat} (hr : isR r) {a b : Nat} (ha : a < 5) (hb : b < 17) : fmV (nI a - nI b) (nI r) = nI ((a + (r - 1) * b) % r) := by
  rcases hr with rfl | rfl | rfl
  · exact fmv_2 a ha b hb
  · exact fmv_3 a ha b hb
  · exact fmv_5 a ha b hb
theorem mrem_2 : ∀ a, a < 17 → ∀ b, b < 17 → vrem (vrem (nI a - nI b) (nI 2) + nI 2) (nI 2) = nI ((a + (2 - 1) * b) % 2) := by decide +kernel
theorem mrem_3 : ∀ a, a < 17 → ∀ b, b < 17 → vrem (vrem (nI a - nI b) (nI 3) + nI 3) (nI 3) = nI ((a + (3 - 1) * b) % 3) := by decide +kernel
theorem mrem_5 : ∀ a, a < 17 → ∀ b, b < 17 → vrem (vrem (nI a - nI b) (nI 5) + nI 5) (nI 5) = nI ((a + (5 - 1) * b) % 5) := by decide +kernel
theorem mrem_r {r : Nat} (hr : isR r) {a b : Nat} (ha : a < 17) (hb : b < 17) : vrem (vrem (nI a - nI b) (nI r) + nI r) (nI r) = nI ((a + (r - 1) * b) % r) := by
  rcases hr with rfl | rfl | rfl
  · exact mrem_2 a ha b hb
  · exact mrem_3 a ha b hb
  · exact mrem_5 a ha b hb
def uOK (r : Nat) : Prop := ∀ ui, ui < r → ∀ uk, uk < r → ∀ kp, kp < r → 1 ≤ ui → 1 ≤ uk → 1 ≤ kp → 1 ≤ ui * uk * kp % r ∧ ∀ ac, ac < r → ∀ ap, ap < r → ∀ kc, kc < r → ((ui * ac % r) * (uk * kp % r) + (r - 1) * ((uk * kc % r) * (ui * ap % r))) % r = (ui * uk * kp % r) * nwA r ac ap kp kc % r
def uOKb (r : Nat) : Bool := (List.range r).all fun ui => (List.range r).all fun uk => (List.range r).all fun kp => ui == 0 || uk == 0 || kp == 0 || (decide (1 ≤ ui * uk * kp % r) && (List.range r).all fun ac => (List.range r).all fun ap => (List.range r).all fun kc => decide (((ui * ac % r) * (uk * kp % r) + (r - 1) * ((uk * kc % r) * (ui * ap % r))) % r = (ui * uk * kp % r) * nwA r ac ap kp kc % r))
theorem uOK_b {r : Nat} (h : uOKb r = true) : uOK r := by
  intro ui h1 uk h2 kp h3 h4 h5 h6
  have a := List.all_eq_true.mp (List.all_eq_true.mp (List.all_eq_true.mp h ui (List.mem_range.mpr h1)) uk (List.mem_range.mpr h2)) kp (List.mem_range.mpr h3)
  have e1 : (ui == 0) = false := by simp; omega
  have e2 : (uk == 0) = false := by simp; omega
  have e3 : (kp == 0) = false := by simp; omega
  rw [e1, e2, e3] at a
  simp only [Bool.false_or, Bool.and_eq_true] at a
  refine ⟨by simpa using a.1, fun ac h7 ap h8 kc h9 => ?_⟩
  have b := List.all_eq_true.mp (List.all_eq_true.mp (List.all_eq_true.mp a.2 ac (List.mem_range.mpr h7)) ap (List.mem_range.mpr h8)) kc (List.mem_range.mpr h9)
  exact of_decide_eq_true b
theorem uOK_2 : uOK 2 := uOK_b (by decide +kernel)
theorem uOK_3 : uOK 3 := uOK_b (by decide +kernel)
theorem uOK_5 : uOK 5 := uOK_b (by decide +kernel)
theorem uOK_r {r : Nat} (hr : isR r) : uOK r := by
  rcases hr with rfl | rfl | rfl
  · exact uOK_2
  · exact uOK_3
  · exact uOK_5
theorem uz_2 : ∀ u, u < 2 → 1 ≤ u → ∀ a, a < 2 → u * a % 2 = 0 → a = 0 := by decide
theorem uz_3 : ∀ u, u < 3 → 1 ≤ u → ∀ a, a < 3 → u * a % 3 = 0 → a = 0 := by decide
theorem uz_5 : ∀ u, u < 5 → 1 ≤ u → ∀ a, a < 5 → u * a % 5 = 0 → a = 0 := by decide
theorem uz_r {r : Nat} (hr : isR r) {u a : Nat} (hu : u < r) (h1 : 1 ≤ u) (ha : a < r) (h : u * a % r = 0) : a = 0 := by
  rcases hr with rfl | rfl | rfl
  · exact uz_2 u hu h1 a ha h
  · exact uz_3 u hu h1 a ha h
  · exact uz_5 u hu h1 a ha h
theorem isR_le {r : Nat} (hr : isR r) : 2 ≤ r ∧ r ≤ 5 := by rcases hr with rfl | rfl | rfl <;> omega
abbrev MX : Type := Nat → Nat → Nat
def fsR (A : MX) (p n k : Nat) : Nat := k + fa_first (fun j => decide (A (k + j) p ≠ 0)) (n - k)
def swR (A : MX) (f k : Nat) : MX := fun i => if i = f then A k else if i = k then A f else A i
def clR (r : Nat) (A : MX) (k p j : Nat) : MX := fun i c => if k < i ∧ i < j ∧ p ≤ c then nwA r (A i c) (A i p) (A k p) (A k c) else A i c
/-- the rank, from column p on, with k rows done -/
def rkA (r n : Nat) : Nat → MX → Nat → Nat → Nat
  | 0, _, k, _ => k
  | m + 1, A, k, p => if n ≤ k then k else if fsR A p n k = n then rkA r n m A k (p + 1) else rkA r n m (clR r (swR A (fsR A p n k) k) k p n) (k + 1) (p + 1)
theorem fsR_le {A : MX} {p n k : Nat} (h : k ≤ n) : k ≤ fsR A p n k ∧ fsR A p n k ≤ n := by
  have := fa_first_le (fun j => decide (A (k + j) p ≠ 0)) (n - k)
  unfold fsR
  omega
theorem fsR_no {A : MX} {p n k i : Nat} (h1 : k ≤ i) (h2 : i < fsR A p n k) : A i p = 0 := by
  unfold fsR at h2
  have := fa_first_no (fun j => decide (A (k + j) p ≠ 0)) (n - k) (i - k) (by omega)
  rw [show k + (i - k) = i by omega] at this
  simpa using this
theorem fsR_yes {A : MX} {p n k : Nat} (hk : k ≤ n) (h : fsR A p n k < n) : A (fsR A p n k) p ≠ 0 := by
  unfold fsR at h ⊢
  have := fa_first_yes (fun j => decide (A (k + j) p ≠ 0)) (n - k) (by omega)
  simpa using this
theorem tx_e {i c : Nat} : (45 : Int32) * nI i + nI c = nI (45 * i + c) := ix_e
theorem tx_in {i c : Nat} (hi : i < 45) (hc : c < 45) : vp_in ((45 : Int32) * nI i + nI c) 2025 := by
  rw [tx_e]; exact vp_in_nI (by omega) (by decide)
theorem tx_c {i c : Nat} (hi : i < 45) (hc : c < 45) : ((45 : Int32) * nI i + nI c).toNatClampNeg = 45 * i + c := by
  rw [tx_e]; exact nI_clamp (by omega)
def Cr (r n P : Nat) (A : MX) (s : Nat → Int32) : Prop := ∀ i, i < n → ∀ c, c < P → s (45 * i + c) = nI (A i c) ∧ A i c < r
theorem idx {i c i' c' : Nat} (hc : c < 45) (hc' : c' < 45) (h : 45 * i + c = 45 * i' + c') : i = i' ∧ c = c' := by omega
section
variable {r n P : Nat}
theorem s_firstWith (hn : n ≤ 45) (hP : P ≤ 45) {A : MX} {s : Nat → Int32} (h : Cr r n P A s) (hr : r ≤ 5) {p k : Nat} (hp : p < P) (hk : k ≤ n) {Q : Int32 → Prop} (q : Q (nI (fsR A p n k))) : w_X3_firstWith (nI p) (nI k) (nI n) s Q := by
  obtain ⟨f1, f2⟩ := fsR_le (A := A) (p := p) hk
  refine lpq (fun m i => w_X3_firstWith_3 (nI p) (nI n) s Q m (nI i)) (fsR A p n k) k f1 (fun m => ?_) (fun m i h1 h2 ih => ?_)
  · refine pk_le n (fsR A p n k) (fun c => ?_) (fun c => ⟨tx_in (by omega) (by omega), ?_⟩)
    · rw [show n = fsR A p n k by omega]; exact q
    · rw [tx_c (by omega) (by omega), (h _ c _ hp).1]
      have := fsR_yes hk c
      have hb := (h _ c _ hp).2
      exact ⟨fun d => absurd d (nI_ne0 (by omega) (by omega)), fun _ => q⟩
  · refine pk_le n i (fun c => by omega) (fun _ => ⟨tx_in (by omega) (by omega), ?_⟩)
    rw [tx_c (by omega) (by omega), (h _ (by omega) _ hp).1, fsR_no h1 h2]
    refine ⟨fun _ => ?_, fun d => absurd rfl d⟩
    rw [nI_1]; exact ih
theorem s_swapRows (hn : n ≤ 45) (hP : P ≤ 45) {A : MX} {s : Nat → Int32} (h : Cr r n P A s) {f k : Nat} (hf : f < n) (hk : k < n) {Q : (Nat → Int32) → Prop} (q : ∀ s, Cr r n P (swR A f k) s → Q s) : w_X3_swapRows (nI f) (nI k) (nI P) s Q := by
  refine pk_loop (fun m c (s : Nat → Int32) => w_X3_swapRows_3 (nI f) (nI k) (nI P) Q m (nI c) s) (fun c0 s => ∀ i, i < n → ∀ c, c < P → s (45 * i + c) = nI (if c < c0 then swR A f k i c else A i c)) P 0 s (Nat.zero_le _) (fun i hi c hc => by rw [if_neg (by omega)]; exact (h i hi c hc).1) (fun m s hs' => ?_) (fun m c0 s hc0 hs' ih => ?_)
  · refine pk_le P P (fun _ => q s (fun i hi c hc => ⟨?_, ?_⟩)) (fun c => by omega)
    · have := hs' i hi c hc
      rw [if_pos hc] at this
      exact this
    · unfold swR
      by_cases e1 : i = f
      · rw [if_pos e1]; exact (h k hk c hc).2
      · rw [if_neg e1]
        by_cases e2 : i = k
        · rw [if_pos e2]; exact (h f hf c hc).2
        · rw [if_neg e2]; exact (h i hi c hc).2
  · refine pk_le P c0 (fun c => by omega) (fun _ => ⟨tx_in (by omega) (by omega), tx_in (by omega) (by omega), tx_in (by omega) (by omega), tx_in (by omega) (by omega), ?_⟩)
    rw [tx_c (by omega) (by omega), tx_c (by omega) (by omega), nI_1]
    have hfc := hs' f hf c0 hc0
    have hkc := hs' k hk c0 hc0
    rw [if_neg (by omega)] at hfc hkc
    rw [hfc, hkc]
    refine ih _ (fun i hi c hc => ?_)
    by_cases ec : c = c0
    · subst ec
      rw [if_pos (by omega)]
      unfold swR
      by_cases e2 : i = k
      · subst e2
        rw [upd_same]
        by_cases e1 : i = f
        · rw [if_pos e1, e1]
        · rw [if_neg e1, if_pos rfl]
      · rw [upd_ne (by omega)]
        by_cases e1 : i = f
        · subst e1
          rw [upd_same, if_pos rfl]
        · rw [upd_ne (by omega), if_neg e1, if_neg e2]
          have := hs' i hi c hc
          rw [if_neg (by omega)] at this
          exact this
    · rw [upd_ne (by omega), upd_ne (by omega), hs' i hi c hc]
      by_cases e1 : c < c0
      · rw [if_pos e1, if_pos (by omega)]
      · rw [if_neg e1, if_neg (by omega)]
theorem s_inverseOf (hr : isR r) {v : Nat} (h1 : 1 ≤ v) (h2 : v < r) {Q : Int32 → Prop} (q : Q (nI (ivF r v))) : w_X3_inverseOf (nI v) (nI r) Q := by
  obtain ⟨i1, i2, i3, i4⟩ := ivF_r hr h1 h2
  obtain ⟨r1, r2⟩ := isR_le hr
  have hm : ∀ i, i < r → v * i < 26 := fun i hi => by
    have : v * i ≤ 5 * 5 := Nat.mul_le_mul (by omega) (by omega)
    omega
  refine lpq (fun m i => w_X3_inverseOf_2 (nI v) (nI r) Q m (nI i)) (ivF r v) 1 i1 (fun m => ?_) (fun m i h3 h4 ih => ?_)
  · refine pk_le r (ivF r v) (fun c => by omega) (fun c => ⟨nI_ne0 (by omega) (by omega), ?_⟩)
    rw [pk_mul, vrem_r hr (hm _ i2), i3]
    exact ⟨fun d => absurd rfl d, fun _ => q⟩
  · refine pk_le r i (fun c => by omega) (fun c => ⟨nI_ne0 (by omega) (by omega), ?_⟩)
    have hml := Nat.mod_lt (v * i) (show 0 < r by omega)
    rw [pk_mul, vrem_r hr (hm _ c)]
    refine ⟨fun _ => ?_, fun d => absurd ((nI_eq (b := 1) (by omega) (by omega)).mp d) (i4 i h4 h3)⟩
    rw [nI_1]; exact ih
theorem nwA_lt (hr : isR r) {a b c d : Nat} : nwA r a b c d < r := Nat.mod_lt _ (by have := isR_le hr; omega)
theorem s_clearBelow (hr : isR r) (hn : n ≤ 45) (hP : P ≤ 45) {A : MX} {s : Nat → Int32} (h : Cr r n P A s) {p k : Nat} (hp : p < P) (hk : k < n) (h0 : A k p ≠ 0) {Q : (Nat → Int32) → Prop} (q : ∀ s, Cr r n P (clR r A k p n) s → Q s) : w_X3_clearBelow (nI p) (nI k) (nI r) s (nI P) (nI n) Q := by
  obtain ⟨r1, r2⟩ := isR_le hr
  refine ⟨tx_in (by omega) (by omega), ?_⟩
  rw [tx_c (by omega) (by omega), (h k hk p hp).1]
  have hkp := (h k hk p hp).2
  obtain ⟨v1, v2, -, -⟩ := ivF_r hr (v := A k p) (by omega) hkp
  refine s_inverseOf hr (by omega) hkp ?_
  rw [nI_1]
  refine pk_loop (fun m i (s : Nat → Int32) => w_X3_clearBelow_20 (nI p) (nI k) (nI r) (nI (ivF r (A k p))) (nI P) (nI n) Q m (nI i) s) (fun j s => k + 1 ≤ j ∧ Cr r n P (clR r A k p j) s) n (k + 1) s (by omega) ⟨Nat.le_refl _, fun i hi c hc => ?_⟩ (fun m s hs' => ?_) (fun m j s hj hs' ih => ?_)
  · unfold clR
    rw [if_neg (by omega)]
    exact h i hi c hc
  · exact pk_le n n (fun _ => q s hs'.2) (fun c => by omega)
  · obtain ⟨hkj, hs'⟩ := hs'
    refine pk_le n j (fun c => by omega) (fun _ => ⟨tx_in (by omega) (by omega), ?_⟩)
    have hjp : clR r A k p j j p = A j p := by unfold clR; rw [if_neg (by omega)]
    have hcell := (hs' j hj p hp).1
    rw [hjp] at hcell
    have hjl := (h j hj p hp).2
    have hle : A j p * ivF r (A k p) ≤ 4 * 4 := Nat.mul_le_mul (by omega) (by omega)
    refine ⟨nI_ne0 (by omega) (by omega), ?_⟩
    rw [tx_c (by omega) (by omega), hcell, pk_mul, vrem_r hr (by omega)]
    generalize ht : A j p * ivF r (A k p) % r = t
    have htl : t < r := by rw [← ht]; exact Nat.mod_lt _ (by omega)
    -- behind the row
    have fin : ∀ s, (∀ i, i < n → ∀ c, c < P → s (45 * i + c) = nI (clR r A k p (j + 1) i c)) → w_X3_clearBelow_20 (nI p) (nI k) (nI r) (nI (ivF r (A k p))) (nI P) (nI n) Q m (nI j + 1) s := fun s z => by
      rw [nI_1]
      refine ih s ⟨by omega, fun i hi c hc => ⟨z i hi c hc, ?_⟩⟩
      unfold clR
      split
      · exact nwA_lt hr
      · exact (h i hi c hc).2
    by_cases t0 : t = 0
    · subst t0
      refine ⟨1, fun _ => fin s (fun i hi c hc => ?_), fun d => absurd rfl d⟩
      rw [(hs' i hi c hc).1]
      congr 1
      unfold clR
      by_cases e : k < i ∧ i < j ∧ p ≤ c
      · rw [if_pos e, if_pos ⟨e.1, by omega, e.2.2⟩]
      · rw [if_neg e]
        by_cases e2 : k < i ∧ i < j + 1 ∧ p ≤ c
        · have hij : i = j := by omega
          subst hij
          rw [if_pos e2]
          unfold nwA
          rw [ht, Nat.zero_mul, Nat.mul_zero, Nat.add_zero, Nat.mod_eq_of_lt (h i hi c hc).2]
        · rw [if_neg e2]
    · refine pk_loop (fun m2 c (s : Nat → Int32) => w_X3_clearBelow_49 (nI p) (nI k) (nI r) (nI (ivF r (A k p))) (nI j) (nI t) (nI P) (nI n) (w_X3_clearBelow_20 (nI p) (nI k) (nI r) (nI (ivF r (A k p))) (nI P) (nI n) Q m) Q m2 (nI c) s) (fun c0 s => p ≤ c0 ∧ ∀ i, i < n → ∀ c, c < P → s (45 * i + c) = nI (if i = j ∧ p ≤ c ∧ c < c0 then nwA r (A i c) (A i p) (A k p) (A k c) else clR r A k p j i c)) P p s (by omega) ⟨Nat.le_refl _, fun i hi c hc => by rw [if_neg (by omega)]; exact (hs' i hi c hc).1⟩ (fun m2 s hs2 => ?_) (fun m2 c0 s hc1 hs2 ih2 => ?_)
      · refine ⟨fun d => absurd d (nI_ne0 (by omega) (by omega)), fun _ => pk_le P P (fun _ => fin s (fun i hi c hc => ?_)) (fun c => by omega)⟩
        rw [hs2.2 i hi c hc]
        congr 1
        unfold clR
        by_cases e : i = j ∧ p ≤ c ∧ c < P
        · rw [if_pos e, if_pos (by omega)]
        · rw [if_neg e]
          by_cases e2 : k < i ∧ i < j ∧ p ≤ c
          · rw [if_pos e2, if_pos (by omega)]
          · rw [if_neg e2, if_neg (by omega)]
      · obtain ⟨hpc, hs2⟩ := hs2
        refine ⟨fun d => absurd d (nI_ne0 (by omega) (by omega)), fun _ => pk_le P c0 (fun c => by omega) (fun _ => ⟨tx_in (by omega) (by omega), tx_in (by omega) (by omega), ?_⟩)⟩
        have hk1 := hs2 k hk c0 hc1
        have hj1 := hs2 j hj c0 hc1
        rw [if_neg (by omega)] at hk1 hj1
        have ek : clR r A k p j k c0 = A k c0 := by unfold clR; rw [if_neg (by omega)]
        have ej : clR r A k p j j c0 = A j c0 := by unfold clR; rw [if_neg (by omega)]
        rw [ek] at hk1
        rw [ej] at hj1
        have b1 := (h k hk c0 hc1).2
        have b2 := (h j hj c0 hc1).2
        have hle2 : t * A k c0 ≤ 4 * 4 := Nat.mul_le_mul (by omega) (by omega)
        rw [tx_c (by omega) (by omega), tx_c (by omega) (by omega), hk1, hj1, pk_mul]
        refine s_floorMod (nI_ne0 (by omega) (by omega)) ⟨tx_in (by omega) (by omega), ?_⟩
        rw [fmv_r hr (by omega) (by omega), nI_1]
        refine ih2 _ ⟨by omega, fun i hi c hc => ?_⟩
        by_cases ec : 45 * i + c = 45 * j + c0
        · obtain ⟨e1, e2⟩ := idx (by omega) (by omega) ec
          subst e1; subst e2
          rw [upd_same, if_pos ⟨rfl, hpc, by omega⟩]
          unfold nwA
          rw [ht]
        · rw [upd_ne ec, hs2 i hi c hc]
          congr 1
          by_cases e : i = j ∧ p ≤ c ∧ c < c0
          · rw [if_pos e, if_pos (by omega)]
          · rw [if_neg e]
            by_cases e2 : i = j ∧ p ≤ c ∧ c < c0 + 1
            · exact absurd (by rw [e2.1]; have : c = c0 := by omega
                               rw [this]) ec
            · rw [if_neg e2]
end
