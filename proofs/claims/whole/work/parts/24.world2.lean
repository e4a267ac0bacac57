/-- the least, begun at a -/
def minF (f : Nat → Nat) (a : Nat) : Nat → Nat
  | 0 => a
  | n + 1 => if f n < minF f a n then f n else minF f a n
theorem minF_lt (f : Nat → Nat) (a k : Nat) : ∀ n, minF f a n < k ↔ a < k ∨ ∃ i, i < n ∧ f i < k
  | 0 => by
    rw [minF]
    constructor
    · exact Or.inl
    · rintro (h | ⟨i, hi, -⟩)
      · exact h
      · omega
  | n + 1 => by
    have ih := minF_lt f a k n
    rw [minF]
    by_cases c : f n < minF f a n
    · rw [if_pos c]
      constructor
      · intro h; exact Or.inr ⟨n, by omega, h⟩
      · rintro (h | ⟨i, hi, h⟩)
        · have := ih.mpr (Or.inl h); omega
        · by_cases e : i = n
          · rw [← e]; exact h
          · have := ih.mpr (Or.inr ⟨i, by omega, h⟩); omega
    · rw [if_neg c, ih]
      constructor
      · rintro (h | ⟨i, hi, h⟩)
        · exact Or.inl h
        · exact Or.inr ⟨i, by omega, h⟩
      · rintro (h | ⟨i, hi, h⟩)
        · exact Or.inl h
        · by_cases e : i = n
          · subst e
            exact ih.mp (by omega)
          · exact Or.inr ⟨i, by omega, h⟩
/-- the greatest, begun at a -/
def maxF (f : Nat → Nat) (a : Nat) : Nat → Nat
  | 0 => a
  | n + 1 => if maxF f a n < f n then f n else maxF f a n
theorem maxF_lt (f : Nat → Nat) (a k : Nat) : ∀ n, k < maxF f a n ↔ k < a ∨ ∃ i, i < n ∧ k < f i
  | 0 => by
    rw [maxF]
    constructor
    · exact Or.inl
    · rintro (h | ⟨i, hi, -⟩)
      · exact h
      · omega
  | n + 1 => by
    have ih := maxF_lt f a k n
    rw [maxF]
    by_cases c : maxF f a n < f n
    · rw [if_pos c]
      constructor
      · intro h; exact Or.inr ⟨n, by omega, h⟩
      · rintro (h | ⟨i, hi, h⟩)
        · have := ih.mpr (Or.inl h); omega
        · by_cases e : i = n
          · rw [← e]; exact h
          · have := ih.mpr (Or.inr ⟨i, by omega, h⟩); omega
    · rw [if_neg c, ih]
      constructor
      · rintro (h | ⟨i, hi, h⟩)
        · exact Or.inl h
        · exact Or.inr ⟨i, by omega, h⟩
      · rintro (h | ⟨i, hi, h⟩)
        · exact Or.inl h
        · by_cases e : i = n
          · subst e
            exact ih.mp (by omega)
          · exact Or.inr ⟨i, by omega, h⟩
theorem minF_le (f : Nat → Nat) (a : Nat) : ∀ n, minF f a n ≤ a
  | 0 => Nat.le_refl _
  | n + 1 => by have := minF_le f a n; rw [minF]; split <;> omega
theorem maxF_le (f : Nat → Nat) (a b : Nat) (ha : a ≤ b) (h : ∀ i, f i ≤ b) : ∀ n, maxF f a n ≤ b
  | 0 => ha
  | n + 1 => by have := maxF_le f a b ha h n; rw [maxF]; have := h n; split <;> omega
theorem if_nI {a b c d : Nat} (ha : a < 2 ^ 31) (hb : b < 2 ^ 31) : (if nI a < nI b then nI c else nI d) = nI (if a < b then c else d) := by
  by_cases h : a < b
  · rw [if_pos h, if_pos ((nI_ltI ha hb).mpr h)]
  · rw [if_neg h, if_neg (fun z => h ((nI_ltI ha hb).mp z))]
theorem s_leastThrough {P : Nat} (hP : P ≤ 45) {g : Nat → Int64} {Q : Int32 → Prop} (h : Q (nI (minF (fun i => pop (g i)) 45 P))) : w_X5_leastThrough (nI P) g Q := by
  refine lpf (fun n i s => w_X5_leastThrough_5 (nI P) g Q n (nI s) (nI i)) (minF (fun i => pop (g i)) 45) P 0 (Nat.zero_le _) (fun n => ?_) (fun n i _ hi ih => ?_)
  · exact pk_le P P (fun _ => h) (fun c => by omega)
  · refine pk_le P i (fun c => by omega) (fun _ => ⟨in45 (by omega), s_bitCount ?_⟩)
    have a1 := minF_le (fun i => pop (g i)) 45 i
    have a2 := pop_le (g i)
    rw [cl45 (by omega), nI_1, if_nI (by omega) (by omega)]
    exact ih
theorem s_mostOnLine {x : Int64} {L : Nat} (hL : L ≤ 45) {g : Nat → Int64} {Q : Int32 → Prop} (h : Q (nI (maxF (fun i => pop (g i &&& x)) 0 L))) : w_X5_mostOnLine x (nI L) g Q := by
  refine lpf (fun n i s => w_X5_mostOnLine_5 x (nI L) g Q n (nI s) (nI i)) (maxF (fun i => pop (g i &&& x)) 0) L 0 (Nat.zero_le _) (fun n => ?_) (fun n i _ hi ih => ?_)
  · exact pk_le L L (fun _ => h) (fun c => by omega)
  · refine pk_le L i (fun c => by omega) (fun _ => ⟨in45 (by omega), s_bitCount ?_⟩)
    have a1 := maxF_le (fun i => pop (g i &&& x)) 0 64 (by omega) (fun i => pop_le _) i
    have a2 := pop_le (g i &&& x)
    rw [cl45 (by omega), nI_1, if_nI (by omega) (by omega)]
    exact ih
theorem s_leastOnLine {x : Int64} {L : Nat} (hL : L ≤ 45) {g : Nat → Int64} {Q : Int32 → Prop} (h : Q (nI (minF (fun i => pop (g i &&& x)) 45 L))) : w_X5_leastOnLine x (nI L) g Q := by
  refine lpf (fun n i s => w_X5_leastOnLine_6 x (nI L) g Q n (nI s) (nI i)) (minF (fun i => pop (g i &&& x)) 45) L 0 (Nat.zero_le _) (fun n => ?_) (fun n i _ hi ih => ?_)
  · exact pk_le L L (fun _ => h) (fun c => by omega)
  · refine pk_le L i (fun c => by omega) (fun _ => ⟨in45 (by omega), s_bitCount ?_⟩)
    have a1 := minF_le (fun i => pop (g i &&& x)) 45 i
    have a2 := pop_le (g i &&& x)
    rw [cl45 (by omega), nI_1, if_nI (by omega) (by omega)]
    exact ih
/-- unions, begun at a -/
def orA (g : Nat → Int64) (x a : Int64) : Nat → Int64
  | 0 => a
  | i + 1 => if hs x i then orA g x a i ||| g i else orA g x a i
theorem hs_orA (g : Nat → Int64) (x a : Int64) (k : Nat) : ∀ n, hs (orA g x a n) k = true ↔ hs a k = true ∨ ∃ i, i < n ∧ hs x i = true ∧ hs (g i) k = true
  | 0 => by
    rw [orA]
    constructor
    · exact Or.inl
    · rintro (h | ⟨i, hi, -⟩)
      · exact h
      · omega
  | n + 1 => by
    have ih := hs_orA g x a k n
    rw [orA]
    cases hb : hs x n
    · rw [if_neg (by simp), ih]
      constructor
      · rintro (h | ⟨i, h1, h2⟩)
        · exact Or.inl h
        · exact Or.inr ⟨i, by omega, h2⟩
      · rintro (h | ⟨i, h1, h2, h3⟩)
        · exact Or.inl h
        · by_cases e : i = n
          · subst e; rw [hb] at h2; cases h2
          · exact Or.inr ⟨i, by omega, h2, h3⟩
    · rw [if_pos rfl, hs_or, Bool.or_eq_true, ih]
      constructor
      · rintro ((h | ⟨i, h1, h2⟩) | h)
        · exact Or.inl h
        · exact Or.inr ⟨i, by omega, h2⟩
        · exact Or.inr ⟨n, by omega, hb, h⟩
      · rintro (h | ⟨i, h1, h2, h3⟩)
        · exact Or.inl (Or.inl h)
        · by_cases e : i = n
          · subst e; exact Or.inr h3
          · exact Or.inl (Or.inr ⟨i, by omega, h2, h3⟩)
/-- what is reached in k steps -/
def rch (g : Nat → Int64) (P x : Nat) : Nat → Int64
  | 0 => vshl 1 (nI x)
  | k + 1 => orA g (rch g P x k) (rch g P x k) P
theorem s_stepsBetween {x y P : Nat} (hP : P ≤ 45) (hy : y < P) {g : Nat → Int64} {Q : Int32 → Prop} (h1 : ∀ k, k < P → hs (rch g P x k) y = true → (∀ j, j < k → hs (rch g P x j) y = false) → Q (nI k)) (h2 : (∀ k, k < P → hs (rch g P x k) y = false) → Q (-9)) : w_X5_stepsBetween (nI x) (nI y) (nI P) g Q := by
  have key : ∀ m k, m + k = P → (∀ j, j < k → hs (rch g P x j) y = false) → ∃ n, w_X5_stepsBetween_7 (nI y) (nI P) g Q n (rch g P x k) (nI k) := by
    intro m
    induction m with
    | zero =>
      intro k hk ha
      have : k = P := by omega
      subst this
      exact ⟨1, pk_le k k (fun _ => h2 ha) (fun c => by omega)⟩
    | succ m ih =>
      intro k hk ha
      cases hb : hs (rch g P x k) y
      · obtain ⟨n, hn⟩ := ih (k + 1) (by omega) (fun j hj => by
          by_cases e : j = k
          · rw [e]; exact hb
          · exact ha j (by omega))
        refine ⟨n + 1, pk_le P k (fun c => by omega) (fun _ => s_has (by omega) (fun b => by rw [hb] at b; cases b) (fun _ => ⟨fun _ => ?_, fun c => absurd rfl c⟩))⟩
        refine lpf (fun n' i s => w_X5_stepsBetween_33 (nI y) (rch g P x k) (nI k) (nI P) g _ Q n' s (nI i)) (orA g (rch g P x k) (rch g P x k)) P 0 (Nat.zero_le _) (fun n' => ?_) (fun n' i _ hi ih => ?_)
        · refine pk_le P P (fun _ => ?_) (fun c => by omega)
          rw [nI_1]
          exact hn
        · refine pk_le P i (fun c => by omega) (fun _ => s_has (by omega) (fun b => ?_) (fun b => ?_))
          · refine ⟨fun c => absurd c (by decide), fun _ => ⟨in45 (by omega), ?_⟩⟩
            rw [cl45 (by omega)]
            simp only [orA, b, if_true] at ih
            show w_X5_stepsBetween_33 _ _ _ _ _ _ Q n' _ _
            rw [nI_1 i]
            exact ih
          · refine ⟨fun _ => ?_, fun c => absurd rfl c⟩
            simp only [orA, b, Bool.false_eq_true, if_false] at ih
            show w_X5_stepsBetween_33 _ _ _ _ _ _ Q n' _ _
            rw [nI_1 i]
            exact ih
      · exact ⟨1, pk_le P k (fun c => by omega) (fun _ => s_has (by omega) (fun _ => ⟨fun c => absurd c (by decide), fun _ => h1 k (by omega) hb ha⟩) (fun b => by rw [hb] at b; cases b))⟩
  exact key P 0 rfl (fun j hj => by omega)
/-- h = 31 h + v, for each of n values -/
def dgF (f : Nat → Int64) (a : Int64) : Nat → Int64
  | 0 => a
  | n + 1 => 31 * dgF f a n + f n
theorem s_digestOn {x : Int64} {P L : Nat} (hL : L ≤ 45) {kd : Int32} {g : Nat → Int64} {Q : Int64 → Prop} (h : Q (dgF g (31 * (31 * (31 * x + (nI P).toInt64) + (nI L).toInt64) + kd.toInt64) L)) : w_X5_digestOn x 1 kd (nI P) (nI L) g Q := by
  refine ⟨fun _ y hy => ?_, fun c => absurd c (by decide)⟩
  rw [← hy] at h
  refine lpf (fun n i s => w_X5_digestOn_54 1 kd (nI P) (nI L) g Q n s (nI i)) (dgF g y) L 0 (Nat.zero_le _) (fun n => ?_) (fun n i _ hi ih => ?_)
  · exact pk_le L L (fun _ => h) (fun c => by omega)
  · refine pk_le L i (fun c => by omega) (fun _ => ⟨in45 (by omega), ?_⟩)
    rw [cl45 (by omega), nI_1]
    exact ih
theorem s_digestOn0 {x : Int64} {kd p l : Int32} {g : Nat → Int64} {Q : Int64 → Prop} (h : Q (31 * x - 1)) : w_X5_digestOn x 0 kd p l g Q := ⟨fun c => absurd rfl c, fun _ => h⟩
/-- with x or'ed in at the places below i that set s has -/
def upF (f : Nat → Int64) (s x : Int64) (i : Nat) : Nat → Int64 := fun p => if p < i ∧ hs s p = true then f p ||| x else f p
theorem upF_0 (f : Nat → Int64) (s x : Int64) : upF f s x 0 = f := by
  funext p
  unfold upF
  rw [if_neg (by omega)]
theorem upF_yes {f : Nat → Int64} {s x : Int64} {i : Nat} (h : hs s i = true) : vp_updL (upF f s x i) i (upF f s x i i ||| x) = upF f s x (i + 1) := by
  funext p
  unfold vp_updL upF
  by_cases e : p = i
  · subst e
    rw [if_pos rfl, if_neg (by omega), if_pos ⟨by omega, h⟩]
  · rw [if_neg e]
    by_cases c : p < i ∧ hs s p = true
    · rw [if_pos c, if_pos ⟨by omega, c.2⟩]
    · rw [if_neg c, if_neg (fun z => c ⟨by omega, z.2⟩)]
theorem upF_no {f : Nat → Int64} {s x : Int64} {i : Nat} (h : hs s i = false) : upF f s x i = upF f s x (i + 1) := by
  funext p
  unfold upF
  by_cases c : p < i ∧ hs s p = true
  · rw [if_pos c, if_pos ⟨by omega, c.2⟩]
  · rw [if_neg c, if_neg (fun z => c ⟨by
      by_cases e : p = i
      · subst e; rw [h] at z; cases z.2
      · omega, z.2⟩)]
theorem s_add {x : Int64} {P L : Nat} (hP : P ≤ 45) (hL : L < 45) {nr st th : Nat → Int64} {Q : Int32 → Int32 → (Nat → Int64) → (Nat → Int64) → (Nat → Int64) → Prop} (h : Q 1 (nI (L + 1)) (upF nr x x P) (vp_updL st L x) (upF th x (vshl 1 (nI L)) P)) : w_X5_add x (nI P) (nI L) nr st th Q := by
  refine pk_lt L 45 (fun _ => ⟨in45 hL, ?_⟩) (fun c => by omega)
  rw [cl45 (by omega)]
  have H : ∃ n, (fun n i (_ : Unit) => w_X5_add_23 x (nI P) (nI L) (vp_updL st L x) Q n (nI i) (upF nr x x i) (upF th x (vshl 1 (nI L)) i)) n 0 () := by
    refine lpf (fun n i (_ : Unit) => w_X5_add_23 x (nI P) (nI L) (vp_updL st L x) Q n (nI i) (upF nr x x i) (upF th x (vshl 1 (nI L)) i)) (fun _ => ()) P 0 (Nat.zero_le _) (fun n => ?_) (fun n i _ hi ih => ?_)
    · refine pk_le P P (fun _ => ⟨Or.inr rfl, ?_⟩) (fun c => by omega)
      rw [nI_1]
      exact h
    · refine pk_le P i (fun c => by omega) (fun _ => s_has (by omega) (fun b => ?_) (fun b => ?_))
      · refine ⟨fun c => absurd c (by decide), fun _ => ⟨in45 (by omega), in45 (by omega), in45 (by omega), in45 (by omega), ?_⟩⟩
        rw [cl45 (by omega), upF_yes b, upF_yes b]
        show w_X5_add_23 _ _ _ _ _ n _ _ _
        rw [nI_1]
        exact ih
      · refine ⟨fun _ => ?_, fun c => absurd rfl c⟩
        show w_X5_add_23 _ _ _ _ _ n _ _ _
        rw [nI_1, upF_no b, upF_no (x := vshl 1 (nI L)) b]
        exact ih
  obtain ⟨n, hn⟩ := H
  rw [upF_0, upF_0] at hn
  exact ⟨n, hn⟩
theorem s_addFull {x : Int64} {P : Nat} {nr st th : Nat → Int64} {Q : Int32 → Int32 → (Nat → Int64) → (Nat → Int64) → (Nat → Int64) → Prop} (h : Q 0 (nI 45) nr st th) : w_X5_add x (nI P) (nI 45) nr st th Q :=
  pk_lt 45 45 (fun c => by omega) (fun _ => ⟨Or.inl rfl, h⟩)
/-- f, but v at the places below i -/
def flF (f v : Nat → Int64) (i : Nat) : Nat → Int64 := fun p => if p < i then v p else f p
theorem flF_s (f v : Nat → Int64) (i : Nat) : vp_updL (flF f v i) i (v i) = flF f v (i + 1) := by
  funext p
  unfold vp_updL flF
  by_cases e : p = i
  · subst e
    rw [if_pos rfl, if_pos (by omega)]
  · rw [if_neg e]
    by_cases c : p < i
    · rw [if_pos c, if_pos (by omega)]
    · rw [if_neg c, if_neg (by omega)]
theorem flF_0 (f v : Nat → Int64) : flF f v 0 = f := by
  funext p
  unfold flF
  rw [if_neg (by omega)]
theorem s_begin {kd p tg a b c d e : Int32} {nr th : Nat → Int64} {Q : Int32 → Int32 → Int32 → Int32 → Int32 → (Nat → Int64) → (Nat → Int64) → Prop} (h : Q 1 kd tg p 0 (flF nr (fun p => vshl 1 (nI p)) 45) (flF th (fun _ => 0) 45)) : w_X5_begin kd p tg a b c d e nr th Q := by
  have H : ∃ n, (fun n i (_ : Unit) => w_X5_begin_28 1 kd tg p 0 Q n (nI i) (flF nr (fun p => vshl 1 (nI p)) i) (flF th (fun _ => 0) i)) n 0 () := by
    refine lpf (fun n i (_ : Unit) => w_X5_begin_28 1 kd tg p 0 Q n (nI i) (flF nr (fun p => vshl 1 (nI p)) i) (flF th (fun _ => 0) i)) (fun _ => ()) 45 0 (Nat.zero_le _) (fun n => ?_) (fun n i _ hi ih => ?_)
    · exact pk_le 45 45 (fun _ => h) (fun c => by omega)
    · refine pk_le 45 i (fun c => by omega) (fun _ => ⟨in45 (by omega), in45 (by omega), ?_⟩)
      rw [cl45 (by omega), nI_1]
      have e1 := flF_s nr (fun p => vshl 1 (nI p)) i
      have e2 := flF_s th (fun _ => 0) i
      rw [e1, e2]
      exact ih
  obtain ⟨n, hn⟩ := H
  rw [flF_0, flF_0] at hn
  exact ⟨n, hn⟩
