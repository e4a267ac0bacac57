/-! the reference's private methods: what each answers -/
/-- the lines through a point -/
def thr (g : Nat → Int64) (L p : Nat) : Int64 := match L with
  | 0 => 0
  | l + 1 => if hs (g l) p then thr g l p ||| vshl 1 (nI l) else thr g l p
/-- the points near a point -/
def nrs (g : Nat → Int64) (L p : Nat) : Int64 := match L with
  | 0 => vshl 1 (nI p)
  | l + 1 => if hs (g l) p then nrs g l p ||| g l else nrs g l p
theorem hs_thr (g : Nat → Int64) (p k : Nat) : ∀ L, L ≤ 45 → (hs (thr g L p) k = true ↔ k < L ∧ hs (g k) p = true)
  | 0, _ => by
    rw [thr, hs_0]
    exact ⟨fun h => (by cases h), fun h => (by omega)⟩
  | l + 1, hl => by
    have ih := hs_thr g p k l (by omega)
    rw [thr]
    cases hb : hs (g l) p
    · rw [if_neg (by simp), ih]
      refine ⟨fun h => ⟨by omega, h.2⟩, fun h => ⟨?_, h.2⟩⟩
      by_cases e : k = l
      · rw [e, hb] at h; cases h.2
      · omega
    · rw [if_pos rfl, hs_or, Bool.or_eq_true, ih, hs_one (by omega)]
      constructor
      · rintro (h | h)
        · exact ⟨by omega, h.2⟩
        · have : k = l := by simpa using h
          rw [this]; exact ⟨by omega, hb⟩
      · intro h
        by_cases e : k = l
        · right; simp [e]
        · left; exact ⟨by omega, h.2⟩
theorem hs_nrs (g : Nat → Int64) (p k : Nat) (hp : p < 64) : ∀ L, hs (nrs g L p) k = true ↔ k = p ∨ ∃ l, l < L ∧ hs (g l) p = true ∧ hs (g l) k = true
  | 0 => by
    rw [nrs, hs_one hp]
    constructor
    · intro h; left; simpa using h
    · rintro (h | ⟨l, h, -⟩)
      · simp [h]
      · omega
  | l + 1 => by
    have ih := hs_nrs g p k hp l
    rw [nrs]
    cases hb : hs (g l) p
    · rw [if_neg (by simp), ih]
      constructor
      · rintro (h | ⟨i, h1, h2⟩)
        · exact Or.inl h
        · exact Or.inr ⟨i, by omega, h2⟩
      · rintro (h | ⟨i, h1, h2, h3⟩)
        · exact Or.inl h
        · by_cases e : i = l
          · rw [e, hb] at h2; cases h2
          · exact Or.inr ⟨i, by omega, h2, h3⟩
    · rw [if_pos rfl, hs_or, Bool.or_eq_true, ih]
      constructor
      · rintro ((h | ⟨i, h1, h2⟩) | h)
        · exact Or.inl h
        · exact Or.inr ⟨i, by omega, h2⟩
        · exact Or.inr ⟨l, by omega, hb, h⟩
      · rintro (h | ⟨i, h1, h2, h3⟩)
        · exact Or.inl (Or.inl h)
        · by_cases e : i = l
          · right; rw [← e]; exact h3
          · exact Or.inl (Or.inr ⟨i, by omega, h2, h3⟩)
theorem thr_cong {g g' : Nat → Int64} (p : Nat) : ∀ {L : Nat}, (∀ l, l < L → g l = g' l) → thr g L p = thr g' L p
  | 0, _ => rfl
  | l + 1, h => by rw [thr, thr, h l (by omega), thr_cong p (fun i hi => h i (by omega))]
theorem nrs_cong {g g' : Nat → Int64} (p : Nat) : ∀ {L : Nat}, (∀ l, l < L → g l = g' l) → nrs g L p = nrs g' L p
  | 0, _ => rfl
  | l + 1, h => by rw [nrs, nrs, h l (by omega), nrs_cong p (fun i hi => h i (by omega))]
theorem m_in {x lo hi : Int32} {Q : Int32 → Prop} (ht : ¬ x < lo → ¬ hi < x → Q 1) (hf : (x < lo ∨ hi < x) → Q 0) : w_X7_in x lo hi Q := by
  unfold w_X7_in w_X7_in_14 w_X7_in_15
  refine ⟨fun c => ⟨Or.inl rfl, hf (Or.inl c)⟩, fun c => ⟨fun d => ⟨Or.inl rfl, hf (Or.inr d)⟩, fun d => ⟨Or.inr rfl, ht c d⟩⟩⟩
/-- in(v, 0, N - 1) -/
theorem m_inN {x hi : Int32} {N : Nat} (hN : N < 2 ^ 31) (hhi : hi = nI N - 1) {Q : Int32 → Prop} (ht : ∀ j, j < N → x = nI j → Q 1) (hf : (¬ ∃ j, j < N ∧ x = nI j) → Q 0) : w_X7_in x 0 hi Q := by
  refine m_in (fun c d => ?_) (fun c => hf ?_)
  · obtain ⟨j, hj, rfl⟩ := nI_of c
    cases N with
    | zero =>
      exfalso
      rw [hhi] at d
      exact d (by
        rw [fa_lt]
        have e : (nI 0 - 1 : Int32).toInt = -1 := by decide
        rw [e, nI_toInt hj]; omega)
    | succ N =>
      rw [nI_pred] at hhi
      rw [hhi] at d
      have := mt (nI_ltI (by omega) hj).mpr d
      exact ht j (by omega) rfl
  · rintro ⟨j, hj, rfl⟩
    cases N with
    | zero => omega
    | succ N =>
      rw [nI_pred] at hhi
      rw [hhi] at c
      rcases c with c | c
      · exact nI_pos (by omega) c
      · have := (nI_ltI (by omega) (by omega)).mp c
        omega
theorem m_isNumber {x : Int32} {Q : Int32 → Prop} (ht : ∀ j, j < 6 → x = nI j → Q 1) (hf : (¬ ∃ j, j < 6 ∧ x = nI j) → Q 0) : w_X7_isNumber x Q :=
  m_inN (N := 6) (by decide) (by decide) (fun j hj e => ⟨Or.inr rfl, ht j hj e⟩) (fun h => ⟨Or.inl rfl, hf h⟩)
theorem m_isRow {x : Int32} {Q : Int32 → Prop} (ht : ∀ j, j < 4 → x = nI j → Q 1) (hf : (¬ ∃ j, j < 4 ∧ x = nI j) → Q 0) : w_X7_isRow x Q :=
  m_inN (N := 4) (by decide) (by decide) (fun j hj e => ⟨Or.inr rfl, ht j hj e⟩) (fun h => ⟨Or.inl rfl, hf h⟩)
theorem in6 {i : Nat} (h : i < 6) : vp_in (nI i) 6 := vp_in_nI h (by decide)
theorem in4 {i : Nat} (h : i < 4) : vp_in (nI i) 4 := vp_in_nI h (by decide)
/-- one more of a finding -/
def fnd (f : Nat → Int32) (k : Nat) : Nat → Int32 := upd f k (f k + 1)
theorem m_meets {k : Nat} (hk : k < 6) {fd : Int32} {fs : Nat → Int32} {Q : Int32 → Int32 → (Nat → Int32) → Prop} (h : Q (-3) (nI k) (fnd fs k)) : w_X7_meets (nI k) fd fs Q := by
  refine ⟨in6 hk, in6 hk, ?_⟩
  rw [cl45 (by omega)]
  exact h
theorem m_looked {x fd : Int32} {fs pt : Nat → Int32} {Q : Int32 → Int32 → (Nat → Int32) → Prop} (h1 : (¬ ∃ j, j < 6 ∧ x = nI j) → Q (-1) fd fs) (h2 : ∀ j, j < 6 → x = nI j → pt j = 0 → Q (-3) 1 (fnd fs 1)) (h3 : ∀ j, j < 6 → x = nI j → pt j ≠ 0 → Q 0 fd fs) : w_X7_looked x fd fs pt Q := by
  refine m_isNumber (fun j hj e => ⟨fun _ => ?_, fun c => absurd c (by decide)⟩) (fun h => ⟨fun c => absurd rfl c, fun _ => h1 h⟩)
  subst e
  refine ⟨in6 hj, ?_⟩
  rw [cl45 (by omega)]
  exact ⟨fun c => h3 j hj rfl c, fun c => m_meets (k := 1) (by decide) (h2 j hj rfl c)⟩
theorem m_allOf {j P : Nat} (hj : j < 6) (hP : P ≤ 45) {pt : Nat → Int32} (hp : pt j = nI P) {Q : Int64 → Prop} (h : Q (blw P)) : w_X7_allOf (nI j) pt Q := by
  refine ⟨in6 hj, ?_⟩
  rw [cl45 (by omega), hp, vshl_below (by omega)]
  exact h
/-- a world's lines in the reference's one array -/
def mg (ln : Nat → Int64) (j : Nat) : Nat → Int64 := fun l => ln (45 * j + l)
theorem ix_e {j l : Nat} : (45 : Int32) * nI j + nI l = nI (45 * j + l) := by
  rw [show (45 : Int32) = nI 45 from rfl, pk_mul, nI_add]
theorem ix_in {j l : Nat} (hj : j < 6) (hl : l < 45) : vp_in ((45 : Int32) * nI j + nI l) 270 := by
  rw [ix_e]; exact vp_in_nI (by omega) (by decide)
theorem ix_c {j l : Nat} (hj : j < 6) (hl : l < 45) (ln : Nat → Int64) : ln ((45 : Int32) * nI j + nI l).toNatClampNeg = mg ln j l := by
  rw [ix_e, nI_clamp (by omega)]; rfl
theorem or0 (x : Int64) : x ||| 0 = x := hs_ext (fun k _ => by rw [hs_or, hs_0, Bool.or_false])
theorem and1 (x : Int64) : x &&& (-1) = x := hs_ext (fun k hk => by rw [hs_and, hs_m1 hk, Bool.and_true])
theorem m_through {j L p : Nat} (hj : j < 6) (hL : L ≤ 45) (hp : p < 45) {lc : Nat → Int32} {ln : Nat → Int64} (hl : lc j = nI L) {Q : Int64 → Prop} (h : Q (thr (mg ln j) L p)) : w_X7_through (nI j) (nI p) lc ln Q := by
  refine lpf (fun n i s => w_X7_through_5 (nI j) (nI p) lc ln Q n s (nI i)) (fun i => thr (mg ln j) i p) L 0 (Nat.zero_le _) (fun n => ?_) (fun n i _ hi ih => ?_)
  · refine ⟨in6 hj, ?_⟩
    rw [cl45 (by omega), hl]
    exact pk_le L L (fun _ => h) (fun c => by omega)
  · refine ⟨in6 hj, ?_⟩
    rw [cl45 (by omega), hl]
    refine pk_le L i (fun c => by omega) (fun _ => ⟨ix_in hj (by omega), ?_⟩)
    rw [ix_c (l := i) hj (by omega) ln]
    refine m_has (by omega) (fun b => ?_) (fun b => ?_)
    · refine ⟨fun c => absurd c (by decide), fun _ => ?_⟩
      simp only [thr, b, if_true] at ih
      show w_X7_through_5 _ _ _ _ _ n _ _
      rw [nI_1]
      exact ih
    · refine ⟨fun _ => ?_, fun c => absurd rfl c⟩
      simp only [thr, b, Bool.false_eq_true, if_false] at ih
      show w_X7_through_5 _ _ _ _ _ n _ _
      rw [nI_1, or0]
      exact ih
theorem m_nearTo {j L p : Nat} (hj : j < 6) (hL : L ≤ 45) (hp : p < 45) {lc : Nat → Int32} {ln : Nat → Int64} (hl : lc j = nI L) {Q : Int64 → Prop} (h : Q (nrs (mg ln j) L p)) : w_X7_nearTo (nI j) (nI p) lc ln Q := by
  refine lpf (fun n i s => w_X7_nearTo_7 (nI j) (nI p) lc ln Q n s (nI i)) (fun i => nrs (mg ln j) i p) L 0 (Nat.zero_le _) (fun n => ?_) (fun n i _ hi ih => ?_)
  · refine ⟨in6 hj, ?_⟩
    rw [cl45 (by omega), hl]
    exact pk_le L L (fun _ => h) (fun c => by omega)
  · refine ⟨in6 hj, ?_⟩
    rw [cl45 (by omega), hl]
    refine pk_le L i (fun c => by omega) (fun _ => ⟨ix_in hj (by omega), ?_⟩)
    rw [ix_c (l := i) hj (by omega) ln]
    refine m_has (by omega) (fun b => ?_) (fun b => ?_)
    · refine ⟨fun c => absurd c (by decide), fun _ => ⟨ix_in hj (by omega), ?_⟩⟩
      simp only [nrs, b, if_true] at ih
      show w_X7_nearTo_7 _ _ _ _ _ n _ _
      rw [nI_1]
      exact ih
    · refine ⟨fun _ => ?_, fun c => absurd rfl c⟩
      simp only [nrs, b, Bool.false_eq_true, if_false] at ih
      show w_X7_nearTo_7 _ _ _ _ _ n _ _
      rw [nI_1, or0]
      exact ih
theorem m_perpOf {j P L : Nat} (hj : j < 6) (hP : P ≤ 45) (hL : L ≤ 45) {lc pt : Nat → Int32} {ln : Nat → Int64} (hp : pt j = nI P) (hl : lc j = nI L) {x : Int64} {Q : Int64 → Prop} (h : Q (andF (nrs (mg ln j) L) x (blw P) P)) : w_X7_perpOf (nI j) x lc ln pt Q := by
  refine m_allOf hj hP hp ?_
  refine lpf (fun n i s => w_X7_perpOf_10 (nI j) x lc ln pt Q n s (nI i)) (andF (nrs (mg ln j) L) x (blw P)) P 0 (Nat.zero_le _) (fun n => ?_) (fun n i _ hi ih => ?_)
  · refine ⟨in6 hj, ?_⟩
    rw [cl45 (by omega), hp]
    exact pk_le P P (fun _ => h) (fun c => by omega)
  · refine ⟨in6 hj, ?_⟩
    rw [cl45 (by omega), hp]
    refine pk_le P i (fun c => by omega) (fun _ => ?_)
    refine m_has (by omega) (fun b => ?_) (fun b => ?_)
    · refine ⟨fun c => absurd c (by decide), fun _ => m_nearTo hj hL (by omega) hl ?_⟩
      simp only [andF, b, if_true] at ih
      show w_X7_perpOf_10 _ _ _ _ _ _ n _ _
      rw [nI_1]
      exact ih
    · refine ⟨fun _ => ?_, fun c => absurd rfl c⟩
      simp only [andF, b, Bool.false_eq_true, if_false] at ih
      show w_X7_perpOf_10 _ _ _ _ _ _ n _ _
      rw [nI_1, and1]
      exact ih
/-- all of a world's lines are of its points -/
def gOK (g : Nat → Int64) (P L : Nat) : Prop := ∀ l, l < L → ∀ k, hs (g l) k = true → k < P
theorem nrs_in {g : Nat → Int64} {P L p k : Nat} (hg : gOK g P L) (hp : p < P) (hP : P ≤ 45) (h : hs (nrs g L p) k = true) : k < P := by
  rcases (hs_nrs g p k (by omega) L).mp h with rfl | ⟨l, h1, -, h3⟩
  · exact hp
  · exact hg l h1 k h3
theorem thr_in {g : Nat → Int64} {L p k : Nat} (hL : L ≤ 45) (h : hs (thr g L p) k = true) : k < L := ((hs_thr g p k L hL).mp h).1
theorem andF_in {g : Nat → Int64} {x a : Int64} {n k : Nat} (h : hs (andF g x a n) k = true) : hs a k = true := ((hs_andF g x a k n).mp h).1
theorem bool_ff {b : Bool} (h : ¬ b = true) : b = false := by cases b <;> simp_all
theorem hs_iff {x y : Int64} (h : ∀ k, k < 64 → (hs x k = true ↔ hs y k = true)) : x = y := hs_ext (fun k hk => by
  have := h k hk
  cases hx : hs x k <;> cases hy : hs y k <;> simp_all)
theorem spn_eq {g : Nat → Int64} {P L x y : Nat} (hP : P ≤ 45) (hg : gOK g P L) (hx : x < P) (hy : y < P) : andF (nrs g L) (andF (nrs g L) (vshl 1 (nI x) ||| vshl 1 (nI y)) (blw P) P) (blw P) P = spn (nrs g L) P x y := by
  unfold spn
  congr 1
  refine hs_iff (fun k hk => ?_)
  rw [hs_andF, hs_and, Bool.and_eq_true, hs_blw (by omega)]
  have e : ∀ i, hs (vshl 1 (nI x) ||| vshl 1 (nI y)) i = true ↔ i = x ∨ i = y := fun i => by
    rw [hs_or, Bool.or_eq_true, hs_one (by omega), hs_one (by omega)]
    simp
  constructor
  · rintro ⟨-, h⟩
    exact ⟨h x hx ((e x).mpr (Or.inl rfl)), h y hy ((e y).mpr (Or.inr rfl))⟩
  · rintro ⟨h1, h2⟩
    refine ⟨by have := nrs_in hg hx hP h1; simp [this], fun i hi h => ?_⟩
    rcases (e i).mp h with rfl | rfl
    · exact h1
    · exact h2
theorem m_spanOf {j P L x y : Nat} (hj : j < 6) (hP : P ≤ 45) (hL : L ≤ 45) (hx : x < P) (hy : y < P) {lc pt : Nat → Int32} {ln : Nat → Int64} (hg : gOK (mg ln j) P L) (hp : pt j = nI P) (hl : lc j = nI L) {Q : Int64 → Prop} (h : Q (spn (nrs (mg ln j) L) P x y)) : w_X7_spanOf (nI j) (nI x) (nI y) lc ln pt Q := by
  refine m_perpOf hj hP hL hp hl (m_perpOf hj hP hL hp hl ?_)
  rw [spn_eq hP hg hx hy]
  exact h
theorem spn_in {g : Nat → Int64} {P x y k : Nat} (hP : P ≤ 45) (h : hs (spn g P x y) k = true) : k < P := by
  have := andF_in h
  rw [hs_blw (by omega)] at this
  simpa using this
theorem m_isPoint {j P : Nat} (hj : j < 6) (hP : P ≤ 45) {x : Int32} {pt : Nat → Int32} (hp : pt j = nI P) {Q : Int32 → Prop} (ht : ∀ p, p < P → x = nI p → Q 1) (hf : (¬ ∃ p, p < P ∧ x = nI p) → Q 0) : w_X7_isPoint (nI j) x pt Q := by
  refine ⟨in6 hj, m_inN (N := P) (by omega) ?_ (fun p h e => ⟨Or.inr rfl, ht p h e⟩) (fun h => ⟨Or.inl rfl, hf h⟩)⟩
  rw [cl45 (by omega), hp]
theorem not45 {x : Int64} {P : Nat} (hP : P ≤ 45) (h : ∀ k, hs x k = true → k < P) : ∀ k, 45 ≤ k → hs x k = false := fun k hk => bool_ff (fun z => by have := h k z; omega)
theorem ord_cong {f f' : Nat → Nat} {n L : Nat} (h : ∀ i, i < n → f i = f' i) (hn : 1 ≤ n ∨ L = 0) : ord f n L = ord f' n L := by
  unfold ord
  by_cases h0 : L = 0
  · rw [if_pos h0, if_pos h0]
  · rw [if_neg h0, if_neg h0]
    have h1 := h 0 (by omega)
    have e : (∀ i, i < n → f i = f 0) ↔ (∀ i, i < n → f' i = f' 0) := by
      constructor
      · intro z i hi; rw [← h i hi, ← h1]; exact z i hi
      · intro z i hi; rw [h i hi, h1]; exact z i hi
    by_cases c : ∀ i, i < n → f i = f 0
    · rw [if_pos c, if_pos (e.mp c), h1]
    · rw [if_neg c, if_neg (fun z => c (e.mpr z))]
theorem m_orderL {j P L : Nat} (hj : j < 6) (hP : P ≤ 45) (hL : L ≤ 45) {lc pt : Nat → Int32} {ln : Nat → Int64} (hg : gOK (mg ln j) P L) (hl : lc j = nI L) {Q : Int32 → Prop} (h : Q (ord (fun i => pop (mg ln j i)) L L)) : w_X7_orderOf (nI j) 1 lc ln pt Q := by
  unfold ord at h
  refine ⟨fun c => absurd c (by decide), fun _ => ⟨in6 hj, ?_⟩⟩
  rw [cl45 (by omega), hl]
  have key : ∀ m i, m + i = L → (∀ k, k < i → pop (mg ln j k) = pop (mg ln j 0)) → ∃ n, w_X7_orderOf_27 (nI j) 1 (nI L) lc ln pt Q n (if i = 0 then -9 else nI (pop (mg ln j 0))) (nI i) := by
    intro m
    induction m with
    | zero =>
      intro i hm ha
      have : i = L := by omega
      subst this
      refine ⟨1, pk_le i i (fun _ => ⟨in6 hj, ?_⟩) (fun c => by omega)⟩
      rw [cl45 (by omega), hl]
      refine ⟨fun c => ?_, fun c => ?_⟩
      · have h0 : i ≠ 0 := fun z => c (by rw [z]; rfl)
        rw [if_neg h0, if_pos ha] at h
        rw [if_neg h0]
        exact h
      · have h0 : i = 0 := (nI_eq (by omega) (by decide)).mp c
        rw [if_pos h0] at h
        exact h
    | succ m ih =>
      intro i hm ha
      have hb45 := not45 hP (hg i (by omega))
      by_cases hb : pop (mg ln j i) = pop (mg ln j 0)
      · obtain ⟨n, hn⟩ := ih (i + 1) (by omega) (fun k hk => by
          by_cases e : k = i
          · rw [e]; exact hb
          · exact ha k (by omega))
        rw [if_neg (by omega)] at hn
        refine ⟨n + 1, pk_le L i (fun c => by omega) (fun _ => ⟨fun c => absurd c (by decide), fun _ => ⟨ix_in hj (by omega), ?_⟩⟩)⟩
        rw [ix_c (l := i) hj (by omega) ln]
        refine m_bits hb45 ⟨fun _ => ?_, fun c => ⟨fun _ => ?_, fun z => ?_⟩⟩
        · show w_X7_orderOf_27 _ _ _ _ _ _ _ n _ _
          rw [nI_1, hb]; exact hn
        · show w_X7_orderOf_27 _ _ _ _ _ _ _ n _ _
          rw [nI_1, hb]; exact hn
        · have h0 : i ≠ 0 := fun z => c (by rw [z]; decide)
          rw [if_neg h0, hb] at z
          exact absurd rfl z
      · have h0 : i ≠ 0 := fun z => hb (by rw [z])
        rw [if_neg (by omega), if_neg (fun z => hb (z i (by omega)))] at h
        refine ⟨1, pk_le L i (fun c => by omega) (fun _ => ⟨fun c => absurd c (by decide), fun _ => ⟨ix_in hj (by omega), ?_⟩⟩)⟩
        rw [ix_c (l := i) hj (by omega) ln]
        refine m_bits hb45 ⟨fun c => ?_, fun c => ⟨fun z => ?_, fun _ => h⟩⟩
        · exact absurd c (nI_nle (by omega) (by omega))
        · rw [if_neg h0] at z
          exact absurd (pop_nI.mp z) hb
  obtain ⟨n, hn⟩ := key L 0 rfl (fun k hk => by omega)
  exact ⟨n, hn⟩
theorem m_orderP {j P L : Nat} (hj : j < 6) (hP : P ≤ 45) (hP1 : 1 ≤ P) (hL : L ≤ 45) {lc pt : Nat → Int32} {ln : Nat → Int64} (hp : pt j = nI P) (hl : lc j = nI L) {Q : Int32 → Prop} (h : Q (ord (fun i => pop (thr (mg ln j) L i)) P L)) : w_X7_orderOf (nI j) 0 lc ln pt Q := by
  unfold ord at h
  refine ⟨fun _ => ⟨in6 hj, ?_⟩, fun c => absurd rfl c⟩
  rw [cl45 (by omega), hp]
  have key : ∀ m i, m + i = P → (∀ k, k < i → pop (thr (mg ln j) L k) = pop (thr (mg ln j) L 0)) → ∃ n, w_X7_orderOf_27 (nI j) 0 (nI P) lc ln pt Q n (if i = 0 then -9 else nI (pop (thr (mg ln j) L 0))) (nI i) := by
    intro m
    induction m with
    | zero =>
      intro i hm ha
      have : i = P := by omega
      subst this
      refine ⟨1, pk_le i i (fun _ => ⟨in6 hj, ?_⟩) (fun c => by omega)⟩
      rw [cl45 (by omega), hl]
      refine ⟨fun c => ?_, fun c => ?_⟩
      · have h0 : L ≠ 0 := fun z => c (by rw [z]; rfl)
        rw [if_neg h0, if_pos ha] at h
        rw [if_neg (by omega)]
        exact h
      · have h0 : L = 0 := (nI_eq (by omega) (by decide)).mp c
        rw [if_pos h0] at h
        exact h
    | succ m ih =>
      intro i hm ha
      have hb45 := not45 hL (fun k => thr_in (g := mg ln j) (p := i) hL)
      by_cases hb : pop (thr (mg ln j) L i) = pop (thr (mg ln j) L 0)
      · obtain ⟨n, hn⟩ := ih (i + 1) (by omega) (fun k hk => by
          by_cases e : k = i
          · rw [e]; exact hb
          · exact ha k (by omega))
        rw [if_neg (by omega)] at hn
        refine ⟨n + 1, pk_le P i (fun c => by omega) (fun _ => ⟨fun _ => m_through hj hL (by omega) hl ?_, fun c => absurd rfl c⟩)⟩
        refine m_bits hb45 ⟨fun _ => ?_, fun c => ⟨fun _ => ?_, fun z => ?_⟩⟩
        · show w_X7_orderOf_27 _ _ _ _ _ _ _ n _ _
          rw [nI_1, hb]; exact hn
        · show w_X7_orderOf_27 _ _ _ _ _ _ _ n _ _
          rw [nI_1, hb]; exact hn
        · have h0 : i ≠ 0 := fun z => c (by rw [z]; decide)
          rw [if_neg h0, hb] at z
          exact absurd rfl z
      · have h0 : i ≠ 0 := fun z => hb (by rw [z])
        have hq : Q (-9) := by
          by_cases hL0 : L = 0
          · rw [if_pos hL0] at h; exact h
          · rw [if_neg hL0, if_neg (fun z => hb (z i (by omega)))] at h; exact h
        refine ⟨1, pk_le P i (fun c => by omega) (fun _ => ⟨fun _ => m_through hj hL (by omega) hl ?_, fun c => absurd rfl c⟩)⟩
        refine m_bits hb45 ⟨fun c => ?_, fun c => ⟨fun z => ?_, fun _ => hq⟩⟩
        · exact absurd c (nI_nle (by omega) (by omega))
        · rw [if_neg h0] at z
          exact absurd (pop_nI.mp z) hb
  obtain ⟨n, hn⟩ := key P 0 rfl (fun k hk => by omega)
  exact ⟨n, hn⟩
