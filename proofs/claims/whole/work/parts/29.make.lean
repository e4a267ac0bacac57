/-! worlds that are made -/
def okW (P L : Nat) (g : Nat → Int64) (size lc : Int32) (near sets through : Nat → Int64) : Prop := size = nI P ∧ lc = nI L ∧ (∀ l, l < L → sets l = g l) ∧ okA P L g near through
theorem okW_cong {P L : Nat} {g g' : Nat → Int64} {s c : Int32} {nr st th : Nat → Int64} (h : okW P L g s c nr st th) (e : ∀ l, l < L → g l = g' l) : okW P L g' s c nr st th :=
  ⟨h.1, h.2.1, fun l hl => (h.2.2.1 l hl).trans (e l hl), fun p hp => by
    have := h.2.2.2 p hp
    rw [this.1, this.2, nrs_cong p e, thr_cong p e]
    exact ⟨rfl, rfl⟩⟩
theorem okW_begin {P : Nat} (hP : P ≤ 45) (g nr st th : Nat → Int64) : okW P 0 g (nI P) 0 (flF nr (fun p => vshl 1 (nI p)) 45) st (flF th (fun _ => 0) 45) := by
  refine ⟨rfl, rfl, fun l hl => by omega, fun p hp => ?_⟩
  unfold flF
  rw [if_pos (by omega), if_pos (by omega)]
  exact ⟨rfl, rfl⟩
theorem vp_updL_same (f : Nat → Int64) (k : Nat) (x : Int64) : vp_updL f k x k = x := pk_uLs
theorem okW_add {P L : Nat} {g : Nat → Int64} {s c : Int32} {nr st th : Nat → Int64} (h : okW P L g s c nr st th) (x : Int64) : okW P (L + 1) (vp_updL g L x) (nI P) (nI (L + 1)) (upF nr x x P) (vp_updL st L x) (upF th x (vshl 1 (nI L)) P) := by
  have e : ∀ l, l < L → g l = vp_updL g L x l := fun l hl => (pk_uLn (by omega)).symm
  refine ⟨rfl, rfl, fun l hl => ?_, fun p hp => ?_⟩
  · unfold vp_updL
    by_cases c : l = L
    · rw [if_pos c, if_pos c]
    · rw [if_neg c, if_neg c]
      exact h.2.2.1 l (by omega)
  · have hh := h.2.2.2 p hp
    unfold upF
    rw [nrs, thr, vp_updL_same, ← nrs_cong p e, ← thr_cong p e, hh.1, hh.2]
    cases hb : hs x p
    · rw [if_neg (by simp), if_neg (by simp), if_neg (by simp), if_neg (by simp)]
      exact ⟨rfl, rfl⟩
    · rw [if_pos rfl, if_pos rfl, if_pos ⟨hp, rfl⟩, if_pos ⟨hp, rfl⟩]
      exact ⟨rfl, rfl⟩
/-- one more line, which is the L-th of g -/
theorem okW_next {P L : Nat} {g : Nat → Int64} {s c : Int32} {nr st th : Nat → Int64} (h : okW P L g s c nr st th) {x : Int64} (hx : g L = x) : okW P (L + 1) g (nI P) (nI (L + 1)) (upF nr x x P) (vp_updL st L x) (upF th x (vshl 1 (nI L)) P) := by
  refine okW_cong (okW_add h x) (fun l hl => ?_)
  unfold vp_updL
  by_cases c : l = L
  · rw [if_pos c, c, hx]
  · rw [if_neg c]
/-- adding a line to a world that holds its lines -/
theorem s_addW {P L : Nat} (hP : P ≤ 45) (hL : L < 45) {g : Nat → Int64} {s c : Int32} {nr st th : Nat → Int64} {x : Int64} (h : okW P L g s c nr st th) (hx : g L = x) {Q : Int32 → Int32 → (Nat → Int64) → (Nat → Int64) → (Nat → Int64) → Prop} (k : ∀ nr st th, okW P (L + 1) g (nI P) (nI (L + 1)) nr st th → Q 1 (nI (L + 1)) nr st th) : w_X5_add x s c nr st th Q := by
  have e1 := h.1
  have e2 := h.2.1
  subst e1
  subst e2
  exact s_add hP hL (k _ _ _ (okW_next h hx))
abbrev QW : Type := Int32 → Int32 → Int32 → Int32 → Int32 → (Nat → Int64) → (Nat → Int64) → (Nat → Int64) → Prop
abbrev A3 : Type := (Nat → Int64) × (Nat → Int64) × (Nat → Int64)
theorem s_makeTurned {P L : Nat} (hP : P ≤ 45) (hL : L ≤ 45) {g th0 : Nat → Int64} (ho : ∀ p, p < P → th0 p = thr g L p) {a b c d e : Int32} {nr st th : Nat → Int64} {Q : QW} (h : ∀ nr st th, okW L P (thr g L) (nI L) (nI P) nr st th → Q 1 3 0 (nI L) (nI P) nr st th) : w_X1_makeTurned (nI P) (nI L) th0 a b c d e nr st th Q := by
  refine s_begin ?_
  refine pk_loop (fun n i (s : A3) => w_X1_makeTurned_12 (nI P) (nI L) th0 1 3 0 (nI L) Q n (nI i) (nI i) s.1 s.2.1 s.2.2) (fun i s => okW L i (thr g L) (nI L) (nI i) s.1 s.2.1 s.2.2) P 0 (_, _, _) (Nat.zero_le _) (okW_begin hL _ _ _ _) (fun n s ok => ?_) (fun n i s hi ok ih => ?_)
  · exact pk_le P P (fun _ => h _ _ _ ok) (fun c => by omega)
  · refine pk_le P i (fun c => by omega) (fun _ => ⟨in45 (by omega), ?_⟩)
    rw [cl45 (by omega), nI_1, ho i (by omega)]
    exact s_addW hL (by omega) ok rfl (fun nr st th ok2 => ih (nr, st, th) ok2)
/-- a set told by its members, in turn -/
def orS (f : Nat → Nat) : Nat → Int64
  | 0 => 0
  | n + 1 => orS f n ||| vshl 1 (nI (f n))
theorem hs_orS (f : Nat → Nat) (k : Nat) : ∀ n, (∀ i, i < n → f i < 64) → (hs (orS f n) k = true ↔ ∃ i, i < n ∧ k = f i)
  | 0, _ => by
    rw [orS, hs_0]
    constructor
    · intro h; cases h
    · rintro ⟨i, hi, -⟩; omega
  | n + 1, hb => by
    rw [orS, hs_or, Bool.or_eq_true, hs_orS f k n (fun i hi => hb i (by omega)), hs_one (hb n (by omega))]
    constructor
    · rintro (⟨i, h1, h2⟩ | h)
      · exact ⟨i, by omega, h2⟩
      · exact ⟨n, by omega, by simpa using h⟩
    · rintro ⟨i, h1, h2⟩
      by_cases e : i = n
      · right; rw [← e]; simp [h2]
      · left; exact ⟨i, by omega, h2⟩
/-- the lines of a grid -/
def gGr (a b l : Nat) : Int64 := if l < a then orS (fun j => b * l + j) b else orS (fun i => b * i + (l - a)) a
theorem grid_bd {a b i j : Nat} (ha : a ≤ 6) (hb : b ≤ 6) (hi : i < a) (hj : j < b) : b * i + j < 36 := by
  have : b * i ≤ 6 * 5 := Nat.mul_le_mul hb (by omega)
  omega
theorem grid_bd2 {a b i j : Nat} (hi : i < a) (hj : j < b) : b * i + j < a * b := by
  have h1 : b * (i + 1) ≤ b * a := Nat.mul_le_mul_left b hi
  rw [Nat.mul_succ, Nat.mul_comm b a] at h1
  omega
theorem gGr_OK {a b : Nat} (ha : a ≤ 6) (hb : b ≤ 6) : gOK (gGr a b) (a * b) (a + b) := by
  intro l hl k h
  unfold gGr at h
  by_cases c : l < a
  · rw [if_pos c] at h
    obtain ⟨j, h1, rfl⟩ := (hs_orS _ _ _ (fun j hj => by have := grid_bd ha hb c hj; omega)).mp h
    exact grid_bd2 c h1
  · rw [if_neg c] at h
    obtain ⟨i, h1, rfl⟩ := (hs_orS _ _ _ (fun i hi => by have := grid_bd ha hb hi (show l - a < b by omega); omega)).mp h
    exact grid_bd2 h1 (by omega)
theorem vshl_lN {n k : Nat} (hk : k < 64) : vshl (lN n) (nI k) = lN (n * 2 ^ k) := by
  unfold vshl
  rw [wb_shl n hk]
theorem row_eq {a b i : Nat} (ha : a ≤ 6) (hb : b ≤ 6) (hi : i < a) : vshl (blw b) (nI (b * i)) = orS (fun j => b * i + j) b := by
  have hbi : b * i < 36 := by
    have : b * i ≤ 6 * 5 := Nat.mul_le_mul hb (by omega)
    omega
  refine hs_iff (fun k hk => ?_)
  rw [hs_orS _ _ _ (fun j hj => by omega)]
  unfold blw
  rw [vshl_lN (by omega), hs_lN, Bool.and_eq_true, decide_eq_true_eq]
  have e : ((2 ^ b - 1) * 2 ^ (b * i)).testBit k = (decide (b * i ≤ k) && (2 ^ b - 1).testBit (k - b * i)) := by
    rw [← Nat.shiftLeft_eq, Nat.testBit_shiftLeft]
  rw [e, Nat.testBit_two_pow_sub_one, Bool.and_eq_true, decide_eq_true_eq, decide_eq_true_eq]
  constructor
  · rintro ⟨-, h1, h2⟩
    exact ⟨k - b * i, h2, by omega⟩
  · rintro ⟨j, h1, rfl⟩
    exact ⟨by omega, by omega, by omega⟩
theorem s_makeGrid {a b : Nat} (ha : 2 ≤ a ∧ a ≤ 6) (hb : 2 ≤ b ∧ b ≤ 6) {z0 z1 z2 z3 z4 : Int32} {nr st th : Nat → Int64} {Q : QW} (h : ∀ nr st th, okW (a * b) (a + b) (gGr a b) (nI (a * b)) (nI (a + b)) nr st th → Q 1 1 (nI a) (nI (a * b)) (nI (a + b)) nr st th) : w_X1_makeGrid (nI a) (nI b) z0 z1 z2 z3 z4 nr st th Q := by
  have hP : a * b ≤ 45 := by
    have : a * b ≤ 6 * 6 := Nat.mul_le_mul ha.2 hb.2
    omega
  unfold w_X1_makeGrid
  rw [pk_mul]
  refine s_begin ?_
  refine pk_loop (fun n i (s : A3) => w_X1_makeGrid_11 (nI a) (nI b) 1 1 (nI a) (nI (a * b)) Q n (nI i) (nI i) s.1 s.2.1 s.2.2) (fun i s => okW (a * b) i (gGr a b) (nI (a * b)) (nI i) s.1 s.2.1 s.2.2) a 0 (_, _, _) (Nat.zero_le _) (okW_begin hP _ _ _ _) (fun n s ok => ?_) (fun n i s hi ok ih => ?_)
  · refine pk_le a a (fun _ => ?_) (fun c => by omega)
    refine pk_loop (fun n j (s : A3) => w_X1_makeGrid_37 (nI a) (nI b) 1 1 (nI a) (nI (a * b)) Q n (nI j) (nI (a + j)) s.1 s.2.1 s.2.2) (fun j s => okW (a * b) (a + j) (gGr a b) (nI (a * b)) (nI (a + j)) s.1 s.2.1 s.2.2) b 0 s (Nat.zero_le _) ok (fun n s ok => ?_) (fun n j s hj ok ih => ?_)
    · exact pk_le b b (fun _ => h _ _ _ ok) (fun c => by omega)
    · refine pk_le b j (fun c => by omega) (fun _ => ?_)
      refine lpf (fun n i q => w_X1_makeGrid_48 (nI a) (nI b) (nI j) 1 1 (nI a) (nI (a * b)) (nI (a + j)) s.1 s.2.1 s.2.2 _ Q n q (nI i)) (orS (fun i => b * i + j)) a 0 (Nat.zero_le _) (fun n' => ?_) (fun n' i _ hi ihi => ?_)
      · refine pk_le a a (fun _ => s_addW hP (by omega) ok ?_ (fun nr st th ok2 => ?_)) (fun c => by omega)
        · unfold gGr
          rw [if_neg (by omega), show a + j - a = j by omega]
        · rw [nI_1]
          exact ih (nr, st, th) ok2
      · refine pk_le a i (fun c => by omega) (fun _ => ?_)
        rw [pk_mul, nI_add, nI_1]
        exact ihi
  · refine pk_le a i (fun c => by omega) (fun _ => s_below (by omega) ?_)
    rw [pk_mul, row_eq ha.2 hb.2 hi]
    refine s_addW hP (by omega) ok ?_ (fun nr st th ok2 => ?_)
    · unfold gGr
      rw [if_pos hi]
    · rw [nI_1]
      exact ih (nr, st, th) ok2
/-- the lines of a part, as many as the first i lines give -/
def ptG (g : Nat → Int64) (x : Int64) : Nat → (Nat → Int64)
  | 0 => fun _ => 0
  | i + 1 => if 2 ≤ pop (g i &&& x) then vp_updL (ptG g x i) (fb_ct (fun l => decide (2 ≤ pop (g l &&& x))) i) (clo (g i) x 45) else ptG g x i
def ptC (g : Nat → Int64) (x : Int64) (i : Nat) : Nat := fb_ct (fun l => decide (2 ≤ pop (g l &&& x))) i
theorem ptC_le (g : Nat → Int64) (x : Int64) (i : Nat) : ptC g x i ≤ i := fb_ct_le _ _
theorem ptC_y {g : Nat → Int64} {x : Int64} {i : Nat} (h : 2 ≤ pop (g i &&& x)) : ptC g x (i + 1) = ptC g x i + 1 := by
  unfold ptC
  rw [fb_ct_succ]
  simp [h]
theorem ptC_n {g : Nat → Int64} {x : Int64} {i : Nat} (h : ¬ 2 ≤ pop (g i &&& x)) : ptC g x (i + 1) = ptC g x i := by
  unfold ptC
  rw [fb_ct_succ]
  simp [h]
theorem ptG_y {g : Nat → Int64} {x : Int64} {i : Nat} (h : 2 ≤ pop (g i &&& x)) : ptG g x (i + 1) = vp_updL (ptG g x i) (ptC g x i) (clo (g i) x 45) := by
  rw [ptG, if_pos h]
  rfl
theorem ptG_n {g : Nat → Int64} {x : Int64} {i : Nat} (h : ¬ 2 ≤ pop (g i &&& x)) : ptG g x (i + 1) = ptG g x i := by
  rw [ptG, if_neg h]
theorem s_makePart {P L : Nat} (hP : P ≤ 45) (hL : L ≤ 45) {g : Nat → Int64} {x : Int64} (hx : pop x ≤ 45) {z0 z1 z2 z3 z4 : Int32} {nr st th : Nat → Int64} {Q : QW} (h : ∀ nr st th, okW (pop x) (ptC g x L) (ptG g x L) (nI (pop x)) (nI (ptC g x L)) nr st th → Q 1 3 0 (nI (pop x)) (nI (ptC g x L)) nr st th) : w_X1_makePart x (nI L) g z0 z1 z2 z3 z4 nr st th Q := by
  refine s_bitCount (s_begin ?_)
  refine pk_loop (fun n i (s : A3) => w_X1_makePart_13 x (nI L) g 1 3 0 (nI (pop x)) Q n (nI i) (nI (ptC g x i)) s.1 s.2.1 s.2.2) (fun i s => okW (pop x) (ptC g x i) (ptG g x i) (nI (pop x)) (nI (ptC g x i)) s.1 s.2.1 s.2.2) L 0 (_, _, _) (Nat.zero_le _) (okW_begin hx _ _ _ _) (fun n s ok => ?_) (fun n i s hi ok ih => ?_)
  · exact pk_le L L (fun _ => h _ _ _ ok) (fun c => by omega)
  · refine pk_le L i (fun c => by omega) (fun _ => ⟨in45 (by omega), s_bitCount ?_⟩)
    rw [cl45 (by omega)]
    have hpl := pop_le (g i &&& x)
    have hcl := ptC_le g x i
    refine pk_lt (pop (g i &&& x)) 2 (fun c => ?_) (fun c => ⟨in45 (by omega), s_renumbered ?_⟩)
    · have hn : ¬ 2 ≤ pop (g i &&& x) := by omega
      have := ih s (by
        show okW _ (ptC g x (i + 1)) (ptG g x (i + 1)) _ (nI (ptC g x (i + 1))) _ _ _
        rw [ptC_n hn, ptG_n hn]; exact ok)
      rw [ptC_n hn] at this
      show w_X1_makePart_13 _ _ _ _ _ _ _ Q n _ _ _ _ _
      rw [nI_1]
      exact this
    · have ok1 := okW_add ok (clo (g i) x 45)
      have e1 := ok.1
      refine s_add hx (by omega) ?_
      have := ih (upF s.1 (clo (g i) x 45) (clo (g i) x 45) (pop x), vp_updL s.2.1 (ptC g x i) (clo (g i) x 45), upF s.2.2 (clo (g i) x 45) (vshl 1 (nI (ptC g x i))) (pop x)) (by
        show okW _ (ptC g x (i + 1)) (ptG g x (i + 1)) _ (nI (ptC g x (i + 1))) _ _ _
        rw [ptC_y c, ptG_y c]; exact ok1)
      rw [ptC_y c] at this
      show w_X1_makePart_13 _ _ _ _ _ _ _ Q n _ _ _ _ _
      rw [nI_1]
      exact this
