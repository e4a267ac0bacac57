/-! the class's worlds: what each method answers, in words of numbers and sets -/
/-- a loop whose state is known at each turn -/
theorem lpf {σ : Type} (W : Nat → Nat → σ → Prop) (f : Nat → σ) (e i0 : Nat) (hi : i0 ≤ e) (hx : ∀ n, W (n + 1) e (f e)) (hs : ∀ n i, i0 ≤ i → i < e → W n (i + 1) (f (i + 1)) → W (n + 1) i (f i)) : ∃ n, W n i0 (f i0) := by
  have key : ∀ m i, i0 ≤ i → i + m = e → W (m + 1) i (f i) := by
    intro m
    induction m with
    | zero => intro i _ h; have : i = e := by omega
              subst this; exact hx 0
    | succ m ih => intro i h1 h; exact hs _ i h1 (by omega) (ih (i + 1) (by omega) (by omega))
  exact ⟨_, key (e - i0) i0 (Nat.le_refl _) (by omega)⟩
/-- a loop that may end early: a measure of what is left -/
theorem lpq (W : Nat → Nat → Prop) (e i0 : Nat) (hi : i0 ≤ e) (hx : ∀ n, W (n + 1) e) (hs : ∀ n i, i0 ≤ i → i < e → W n (i + 1) → W (n + 1) i) : ∃ n, W n i0 := by
  obtain ⟨n, h⟩ := lpf (fun n i (_ : Unit) => W n i) (fun _ => ()) e i0 hi hx hs
  exact ⟨n, h⟩
theorem in45 {i : Nat} (h : i < 45) : vp_in (nI i) 45 := vp_in_nI h (by decide)
theorem cl45 {i : Nat} (h : i < 2 ^ 31) : (nI i).toNatClampNeg = i := nI_clamp h
/-- unions -/
def orF (g : Nat → Int64) (x : Int64) : Nat → Int64
  | 0 => 0
  | i + 1 => if hs x i then orF g x i ||| g i else orF g x i
theorem hs_orF (g : Nat → Int64) (x : Int64) (k : Nat) : ∀ n, hs (orF g x n) k = true ↔ ∃ i, i < n ∧ hs x i = true ∧ hs (g i) k = true
  | 0 => by
    rw [orF, hs_0]
    constructor
    · intro h; cases h
    · rintro ⟨i, hi, -⟩; omega
  | n + 1 => by
    have ih := hs_orF g x k n
    rw [orF]
    cases hb : hs x n
    · rw [if_neg (by simp), ih]
      constructor
      · rintro ⟨i, h1, h2⟩; exact ⟨i, by omega, h2⟩
      · rintro ⟨i, h1, h2, h3⟩
        by_cases e : i = n
        · subst e; rw [hb] at h2; cases h2
        · exact ⟨i, by omega, h2, h3⟩
    · rw [if_pos rfl, hs_or, Bool.or_eq_true, ih]
      constructor
      · rintro (⟨i, h1, h2⟩ | h)
        · exact ⟨i, by omega, h2⟩
        · exact ⟨n, by omega, hb, h⟩
      · rintro ⟨i, h1, h2, h3⟩
        by_cases e : i = n
        · subst e; exact Or.inr h3
        · exact Or.inl ⟨i, by omega, h2, h3⟩
/-- meets -/
def andF (g : Nat → Int64) (x a : Int64) : Nat → Int64
  | 0 => a
  | i + 1 => if hs x i then andF g x a i &&& g i else andF g x a i
theorem hs_andF (g : Nat → Int64) (x a : Int64) (k : Nat) : ∀ n, hs (andF g x a n) k = true ↔ hs a k = true ∧ ∀ i, i < n → hs x i = true → hs (g i) k = true
  | 0 => by
    rw [andF]
    exact ⟨fun h => ⟨h, fun i hi => by omega⟩, fun h => h.1⟩
  | n + 1 => by
    have ih := hs_andF g x a k n
    rw [andF]
    cases hb : hs x n
    · rw [if_neg (by simp), ih]
      constructor
      · rintro ⟨h0, h⟩
        refine ⟨h0, fun i h1 h2 => ?_⟩
        by_cases e : i = n
        · subst e; rw [hb] at h2; cases h2
        · exact h i (by omega) h2
      · rintro ⟨h0, h⟩
        exact ⟨h0, fun i h1 h2 => h i (by omega) h2⟩
    · rw [if_pos rfl, hs_and, Bool.and_eq_true, ih]
      constructor
      · rintro ⟨⟨h0, h⟩, h9⟩
        refine ⟨h0, fun i h1 h2 => ?_⟩
        by_cases e : i = n
        · subst e; exact h9
        · exact h i (by omega) h2
      · rintro ⟨h0, h⟩
        exact ⟨⟨h0, fun i h1 h2 => h i (by omega) h2⟩, h n (by omega) hb⟩
theorem s_linesMeeting {x : Int64} {P : Nat} (hP : P ≤ 45) {g : Nat → Int64} {Q : Int64 → Prop} (h : Q (orF g x P)) : w_X5_linesMeeting x (nI P) g Q := by
  refine lpf (fun n i s => w_X5_linesMeeting_5 x (nI P) g Q n s (nI i)) (orF g x) P 0 (Nat.zero_le _) (fun n => ?_) (fun n i _ hi ih => ?_)
  · exact pk_le P P (fun _ => h) (fun c => by omega)
  · refine pk_le P i (fun c => by omega) (fun _ => s_has (by omega) (fun b => ?_) (fun b => ?_))
    · refine ⟨fun c => absurd c (by decide), fun _ => ⟨in45 (by omega), ?_⟩⟩
      rw [cl45 (by omega)]
      simp only [orF, b, if_true] at ih
      show w_X5_linesMeeting_5 x (nI P) g Q n _ _
      rw [nI_1]
      exact ih
    · refine ⟨fun _ => ?_, fun c => absurd rfl c⟩
      simp only [orF, b, Bool.false_eq_true, if_false] at ih
      show w_X5_linesMeeting_5 x (nI P) g Q n _ _
      rw [nI_1]
      exact ih
theorem s_nearToAll {x : Int64} {P : Nat} (hP : P ≤ 45) {g : Nat → Int64} {Q : Int64 → Prop} (h : Q (andF g x (blw P) P)) : w_X5_nearToAll x (nI P) g Q := by
  refine s_below (by omega) ?_
  refine lpf (fun n i s => w_X5_nearToAll_11 x (nI P) g Q n s (nI i)) (andF g x (blw P)) P 0 (Nat.zero_le _) (fun n => ?_) (fun n i _ hi ih => ?_)
  · exact pk_le P P (fun _ => h) (fun c => by omega)
  · refine pk_le P i (fun c => by omega) (fun _ => s_has (by omega) (fun b => ?_) (fun b => ?_))
    · refine ⟨fun c => absurd c (by decide), fun _ => ⟨in45 (by omega), ?_⟩⟩
      rw [cl45 (by omega)]
      simp only [andF, b, if_true] at ih
      show w_X5_nearToAll_11 x (nI P) g Q n _ _
      rw [nI_1]
      exact ih
    · refine ⟨fun _ => ?_, fun c => absurd rfl c⟩
      simp only [andF, b, Bool.false_eq_true, if_false] at ih
      show w_X5_nearToAll_11 x (nI P) g Q n _ _
      rw [nI_1]
      exact ih
/-- the span of two points, by the points near each -/
def spn (g : Nat → Int64) (P x y : Nat) : Int64 := andF g (g x &&& g y) (blw P) P
theorem s_spanSet {x y P : Nat} (hP : P ≤ 45) (hx : x < P) (hy : y < P) {g : Nat → Int64} {Q : Int64 → Prop} (h : Q (spn g P x y)) : w_X5_spanSet (nI x) (nI y) (nI P) g Q := by
  refine ⟨in45 (by omega), in45 (by omega), ?_⟩
  rw [cl45 (by omega), cl45 (by omega)]
  exact s_nearToAll hP h
/-- whether an int is a number below P -/
theorem below_cases (x : Int32) (P : Nat) (hP : P < 2 ^ 31) : (∃ p, p < P ∧ x = nI p) ∨ x < 0 ∨ (¬ x < 0 ∧ nI P ≤ x) := by
  rcases pk_ix x hP with h | h | ⟨j, hj, e⟩
  · exact Or.inr (Or.inl h)
  · by_cases h0 : x < 0
    · exact Or.inr (Or.inl h0)
    · exact Or.inr (Or.inr ⟨h0, h⟩)
  · exact Or.inl ⟨j, hj, e⟩
theorem s_hasPoint {x : Int32} {P : Nat} (hP : P ≤ 45) {Q : Int32 → Prop} (ht : ∀ p, p < P → x = nI p → Q 1) (hf : (¬ ∃ p, p < P ∧ x = nI p) → Q 0) : w_X5_hasPoint x (nI P) Q := by
  unfold w_X5_hasPoint w_X5_hasPoint_16 w_X5_hasPoint_17
  rcases below_cases x P (by omega) with ⟨p, hp, rfl⟩ | h | ⟨h0, h⟩
  · refine ⟨fun c => absurd c (nI_pos (by omega)), fun _ => pk_le P p (fun c => by omega) (fun _ => ⟨Or.inr rfl, ht p hp rfl⟩)⟩
  · refine ⟨fun _ => ⟨Or.inl rfl, hf ?_⟩, fun c => absurd h c⟩
    rintro ⟨p, hp, rfl⟩
    exact absurd h (nI_pos (by omega))
  · refine ⟨fun c => absurd c h0, fun _ => ⟨fun _ => ⟨Or.inl rfl, hf ?_⟩, fun c => absurd h c⟩⟩
    rintro ⟨p, hp, rfl⟩
    exact absurd ((nI_leI (by omega) (by omega)).mp h) (by omega)
theorem zero_iff (x : Int64) : x = 0 ↔ ∀ k, k < 64 → hs x k = false := by
  constructor
  · rintro rfl k _
    exact hs_0 k
  · intro h
    exact hs_ext (fun k hk => by rw [h k hk, hs_0])
theorem s_hasAll {x : Int64} {P : Nat} (hP : P ≤ 45) {Q : Int32 → Prop} (ht : (∀ k, P ≤ k → hs x k = false) → Q 1) (hf : (¬ ∀ k, P ≤ k → hs x k = false) → Q 0) : w_X5_hasAll x (nI P) Q := by
  refine s_below (by omega) ?_
  unfold w_X5_hasAll_23
  rw [lgc]
  have e : (x &&& (blw P ^^^ (-1))) = 0 ↔ ∀ k, P ≤ k → hs x k = false := by
    rw [zero_iff]
    constructor
    · intro h k hk
      by_cases h6 : k < 64
      · have := h k h6
        rw [hs_and, hs_not _ h6, hs_blw (by omega)] at this
        simp only [show ¬ k < P by omega, decide_false, Bool.not_false, Bool.and_true] at this
        exact this
      · exact hs_big (by omega)
    · intro h k hk
      rw [hs_and, hs_not _ hk, hs_blw (by omega)]
      by_cases h6 : k < P
      · simp [h6]
      · simp [h6, h k (by omega)]
  rw [e]
  exact ⟨fun c => ⟨Or.inl rfl, hf c⟩, fun c => ⟨Or.inr rfl, ht c⟩⟩
/-- an order: what all of n numbers are, less 1 -/
def ord (f : Nat → Nat) (n L : Nat) : Int32 := if L = 0 then -9 else if (∀ i, i < n → f i = f 0) then nI (f 0) - 1 else -9
theorem pop_nI {x y : Int64} : nI (pop x) = nI (pop y) ↔ pop x = pop y := nI_eq (by have := pop_le x; omega) (by have := pop_le y; omega)
theorem s_orderOfLines {L : Nat} (hL : L ≤ 45) {g : Nat → Int64} {Q : Int32 → Prop} (h : Q (ord (fun i => pop (g i)) L L)) : w_X5_orderOfLines (nI L) g Q := by
  unfold ord at h
  refine ⟨fun c => ?_, fun c => ?_⟩
  · have hL0 : L ≠ 0 := fun z => c (by rw [z]; rfl)
    rw [if_neg hL0] at h
    refine ⟨in45 (i := 0) (by omega), s_bitCount ?_⟩
    have key : ∀ i, i ≤ L → (∀ j, j < i → pop (g j) = pop (g 0)) → 1 ≤ i → ∃ n, w_X5_orderOfLines_22 (nI (pop (g 0))) (nI L) g Q n (nI i) := by
      intro i hi
      obtain ⟨m, hm⟩ : ∃ m, m + i = L := ⟨L - i, by omega⟩
      induction m generalizing i with
      | zero =>
        intro ha h1
        have : i = L := by omega
        subst this
        rw [if_pos ha] at h
        exact ⟨1, pk_le i i (fun _ => h) (fun c => by omega)⟩
      | succ m ih =>
        intro ha h1
        by_cases hb : pop (g i) = pop (g 0)
        · obtain ⟨n, hn⟩ := ih (i + 1) (by omega) (by omega) (fun j hj => by
            by_cases e : j = i
            · rw [e]; exact hb
            · exact ha j (by omega)) (by omega)
          refine ⟨n + 1, pk_le L i (fun c => by omega) (fun _ => ⟨in45 (by omega), s_bitCount ⟨fun _ => ?_, fun z => ?_⟩⟩)⟩
          · rw [nI_1]; exact hn
          · rw [cl45 (by omega)] at z; exact absurd (by rw [hb]) z
        · rw [if_neg (fun z => hb (z i (by omega)))] at h
          refine ⟨1, pk_le L i (fun c => by omega) (fun _ => ⟨in45 (by omega), s_bitCount ⟨fun z => ?_, fun _ => h⟩⟩)⟩
          rw [cl45 (by omega)] at z; exact absurd (pop_nI.mp z) hb
    exact key 1 (by omega) (fun j hj => by rw [show j = 0 by omega]) (Nat.le_refl _)
  · have hL0 : L = 0 := (nI_eq (by omega) (by decide)).mp c
    rw [if_pos hL0] at h
    exact h
theorem s_orderOfPoints {P L : Nat} (hP : P ≤ 45) (hP1 : 1 ≤ P) (hL : L ≤ 45) {g : Nat → Int64} {Q : Int32 → Prop} (h : Q (ord (fun i => pop (g i)) P L)) : w_X5_orderOfPoints (nI P) (nI L) g Q := by
  unfold ord at h
  refine ⟨fun c => ?_, fun c => ?_⟩
  · have hL0 : L ≠ 0 := fun z => c (by rw [z]; rfl)
    rw [if_neg hL0] at h
    refine ⟨in45 (i := 0) (by omega), s_bitCount ?_⟩
    have key : ∀ i, i ≤ P → (∀ j, j < i → pop (g j) = pop (g 0)) → 1 ≤ i → ∃ n, w_X5_orderOfPoints_22 (nI (pop (g 0))) (nI P) (nI L) g Q n (nI i) := by
      intro i hi
      obtain ⟨m, hm⟩ : ∃ m, m + i = P := ⟨P - i, by omega⟩
      induction m generalizing i with
      | zero =>
        intro ha h1
        have : i = P := by omega
        subst this
        rw [if_pos ha] at h
        exact ⟨1, pk_le i i (fun _ => h) (fun c => by omega)⟩
      | succ m ih =>
        intro ha h1
        by_cases hb : pop (g i) = pop (g 0)
        · obtain ⟨n, hn⟩ := ih (i + 1) (by omega) (by omega) (fun j hj => by
            by_cases e : j = i
            · rw [e]; exact hb
            · exact ha j (by omega)) (by omega)
          refine ⟨n + 1, pk_le P i (fun c => by omega) (fun _ => ⟨in45 (by omega), s_bitCount ⟨fun _ => ?_, fun z => ?_⟩⟩)⟩
          · rw [nI_1]; exact hn
          · rw [cl45 (by omega)] at z; exact absurd (by rw [hb]) z
        · rw [if_neg (fun z => hb (z i (by omega)))] at h
          refine ⟨1, pk_le P i (fun c => by omega) (fun _ => ⟨in45 (by omega), s_bitCount ⟨fun z => ?_, fun _ => h⟩⟩)⟩
          rw [cl45 (by omega)] at z; exact absurd (pop_nI.mp z) hb
    exact key 1 (by omega) (fun j hj => by rw [show j = 0 by omega]) (Nat.le_refl _)
  · have hL0 : L = 0 := (nI_eq (by omega) (by decide)).mp c
    rw [if_pos hL0] at h
    exact h
theorem s_areNear {x y P : Nat} (hP : P ≤ 45) (hx : x < P) (hy : y < P) {g : Nat → Int64} {Q : Int32 → Prop} (ht : hs (g x) y = true → Q 1) (hf : hs (g x) y = false → Q 0) : w_X5_areNear (nI x) (nI y) g Q := by
  refine ⟨in45 (by omega), ?_⟩
  rw [cl45 (by omega)]
  exact s_has (by omega) (fun b => ⟨Or.inr rfl, ht b⟩) (fun b => ⟨Or.inl rfl, hf b⟩)
/-- regular: each point not near has a span of so many -/
def reg (g : Nat → Int64) (P x : Nat) (due : Int32) : Prop := ∀ y, y < P → hs (g x) y = true ∨ nI (pop (spn g P x y)) = due
theorem s_isRegular {x P L : Nat} (hP : P ≤ 45) (hL : L ≤ 45) (hx : x < P) {g t : Nat → Int64} {Q : Int32 → Prop} (ht : reg g P x (ord (fun i => pop (t i)) P L + 1) → Q 1) (hf : ¬ reg g P x (ord (fun i => pop (t i)) P L + 1) → Q 0) : w_X5_isRegular (nI x) (nI P) (nI L) g t Q := by
  refine s_orderOfPoints hP (by omega) hL ?_
  generalize ord (fun i => pop (t i)) P L + 1 = due at ht hf ⊢
  have key : ∀ m i, m + i = P → (∀ y, y < i → hs (g x) y = true ∨ nI (pop (spn g P x y)) = due) → ∃ n, w_X5_isRegular_9 (nI x) due (nI P) (nI L) g t Q n (nI i) := by
    intro m
    induction m with
    | zero =>
      intro i hm ha
      have : i = P := by omega
      subst this
      exact ⟨1, pk_le i i (fun _ => ⟨Or.inr rfl, ht ha⟩) (fun c => by omega)⟩
    | succ m ih =>
      intro i hm ha
      by_cases hb : hs (g x) i = true ∨ nI (pop (spn g P x i)) = due
      · obtain ⟨n, hn⟩ := ih (i + 1) (by omega) (fun y hy => by
          by_cases e : y = i
          · rw [e]; exact hb
          · exact ha y (by omega))
        refine ⟨n + 1, pk_le P i (fun c => by omega) (fun _ => s_areNear hP hx (by omega) (fun b => ?_) (fun b => ?_))⟩
        · refine ⟨fun _ => ?_, fun c => absurd c (by decide)⟩
          show w_X5_isRegular_9 _ _ _ _ _ _ _ n _
          rw [nI_1]; exact hn
        · refine ⟨fun c => absurd rfl c, fun _ => s_spanSet hP hx (by omega) (s_bitCount ⟨fun _ => ?_, fun z => ?_⟩)⟩
          · show w_X5_isRegular_9 _ _ _ _ _ _ _ n _
            rw [nI_1]; exact hn
          · rcases hb with hb | hb
            · rw [b] at hb; cases hb
            · exact absurd hb z
      · have hq := hf (fun z => hb (z i (by omega)))
        refine ⟨1, pk_le P i (fun c => by omega) (fun _ => s_areNear hP hx (by omega) (fun b => absurd (Or.inl b) hb) (fun b => ?_))⟩
        refine ⟨fun c => absurd rfl c, fun _ => s_spanSet hP hx (by omega) (s_bitCount ⟨fun z => absurd (Or.inr z) hb, fun _ => ⟨Or.inl rfl, hq⟩⟩)⟩
  exact key P 0 rfl (fun y hy => by omega)
