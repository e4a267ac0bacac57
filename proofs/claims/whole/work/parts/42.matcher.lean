/-! the matcher: a search for a way to send, as a machine; the class's is it -/
def imgF (im : Nat → Int32) (x : Int64) : Nat → Int64
  | 0 => 0
  | p + 1 => if hs x p then imgF im x p ||| vshl 1 (im p) else imgF im x p
theorem hs_imgF {im : Nat → Int32} {x : Int64} (k : Nat) : ∀ n, (∀ q, q < n → num (im q) 45) → (hs (imgF im x n) k = true ↔ ∃ q, q < n ∧ hs x q = true ∧ im q = nI k ∧ k < 45)
  | 0, _ => by
    rw [imgF, hs_0]
    constructor
    · intro h; cases h
    · rintro ⟨q, hq, -⟩; omega
  | n + 1, h => by
    have ih := hs_imgF (im := im) (x := x) k n (fun q hq => h q (by omega))
    rw [imgF]
    obtain ⟨i, hi, e⟩ := h n (by omega)
    cases hb : hs x n
    · rw [if_neg (by simp), ih]
      constructor
      · rintro ⟨q, h1, h2⟩; exact ⟨q, by omega, h2⟩
      · rintro ⟨q, h1, h2, h3⟩
        by_cases c : q = n
        · rw [c, hb] at h2; cases h2
        · exact ⟨q, by omega, h2, h3⟩
    · rw [if_pos rfl, hs_or, Bool.or_eq_true, ih, e, hs_one (by omega)]
      constructor
      · rintro (⟨q, h1, h2⟩ | h1)
        · exact ⟨q, by omega, h2⟩
        · have : k = i := by simpa using h1
          subst this
          exact ⟨n, by omega, hb, e, hi⟩
      · rintro ⟨q, h1, h2, h3, h4⟩
        by_cases c : q = n
        · subst c
          have := (nI_eq (by omega) (by omega)).mp (h3.symm.trans e)
          right; simp [this]
        · exact Or.inl ⟨q, by omega, h2, h3, h4⟩
theorem imgF_cong {im im' : Nat → Int32} {x : Int64} : ∀ {n : Nat}, (∀ q, q < n → im q = im' q) → imgF im x n = imgF im' x n
  | 0, _ => rfl
  | n + 1, h => by rw [imgF, imgF, imgF_cong (fun q hq => h q (by omega)), h n (by omega)]
/-- where a point may be sent -/
def cdA (U : Int64) (d : Nat) (dh : Nat → Nat) (nh : Nat → Int64) (w : Int64) : Nat → Int64
  | 0 => 0
  | q + 1 => if hs U q = false ∧ dh q = d ∧ (nh q &&& U) = w then cdA U d dh nh w q ||| vshl 1 (nI q) else cdA U d dh nh w q
theorem hs_cdA {U : Int64} {d : Nat} {dh : Nat → Nat} {nh : Nat → Int64} {w : Int64} (k : Nat) : ∀ n, n ≤ 45 → (hs (cdA U d dh nh w n) k = true ↔ k < n ∧ hs U k = false ∧ dh k = d ∧ (nh k &&& U) = w)
  | 0, _ => by
    rw [cdA, hs_0]
    exact ⟨fun h => (by cases h), fun h => absurd h.1 (Nat.not_lt_zero _)⟩
  | n + 1, hn => by
    have ih := hs_cdA (U := U) (d := d) (dh := dh) (nh := nh) (w := w) k n (by omega)
    rw [cdA]
    by_cases c : hs U n = false ∧ dh n = d ∧ (nh n &&& U) = w
    · rw [if_pos c, hs_or, Bool.or_eq_true, ih, hs_one (by omega)]
      constructor
      · rintro (⟨h1, h2⟩ | h1)
        · exact ⟨by omega, h2⟩
        · have : k = n := by simpa using h1
          rw [this]; exact ⟨by omega, c⟩
      · rintro ⟨h1, h2⟩
        by_cases e : k = n
        · right; simp [e]
        · exact Or.inl ⟨by omega, h2⟩
    · rw [if_neg c, ih]
      constructor
      · rintro ⟨h1, h2⟩; exact ⟨by omega, h2⟩
      · rintro ⟨h1, h2⟩
        by_cases e : k = n
        · rw [e] at h2; exact absurd h2 c
        · exact ⟨by omega, h2⟩
/-- the first line that is the set and not used -/
def fnL (h : Nat → Int64) (L : Nat) (u x : Int64) : Nat := fa_first (fun j => !hs u j && decide (h j = x)) L
/-- the lines used when the first n are sent -/
def fitU (g h : Nat → Int64) (P L : Nat) (im : Nat → Int32) : Nat → Option Int64
  | 0 => some 0
  | n + 1 => match fitU g h P L im n with
    | none => none
    | some u => if fnL h L u (imgF im (g n) P) < L then some (u ||| vshl 1 (nI (fnL h L u (imgF im (g n) P)))) else none
def fit (g h : Nat → Int64) (P L : Nat) (im : Nat → Int32) : Bool := (fitU g h P L im L).isSome
theorem fitU_none {g h : Nat → Int64} {P L : Nat} {im : Nat → Int32} {n : Nat} (e : fitU g h P L im n = none) : ∀ m, fitU g h P L im (n + m) = none
  | 0 => e
  | m + 1 => by
    show fitU g h P L im (n + m + 1) = none
    rw [fitU, fitU_none e m]
theorem s_imageOf {x : Int64} {n : Nat} (hn : n ≤ 45) {im : Nat → Int32} {Q : Int64 → Prop} (h : Q (imgF im x n)) : w_X2_imageOf x (nI n) im Q := by
  refine lpf (fun m i s => w_X2_imageOf_6 x (nI n) im Q m s (nI i)) (imgF im x) n 0 (Nat.zero_le _) (fun m => ?_) (fun m i _ hi ih => ?_)
  · exact pk_le n n (fun _ => h) (fun c => by omega)
  · refine pk_le n i (fun c => by omega) (fun _ => s_has (by omega) (fun b => ?_) (fun b => ?_))
    · refine ⟨fun c => absurd c (by decide), fun _ => ⟨in45 (by omega), ?_⟩⟩
      rw [cl45 (by omega)]
      rw [imgF, b, if_pos rfl] at ih
      show w_X2_imageOf_6 _ _ _ _ m _ _
      rw [nI_1]; exact ih
    · refine ⟨fun _ => ?_, fun c => absurd rfl c⟩
      rw [imgF, b, if_neg (by simp)] at ih
      show w_X2_imageOf_6 _ _ _ _ m _ _
      rw [nI_1]; exact ih
theorem fnL_le {h : Nat → Int64} {L : Nat} {u x : Int64} : fnL h L u x ≤ L := fa_first_le _ _
theorem fnL_no {h : Nat → Int64} {L : Nat} {u x : Int64} {j : Nat} (hj : j < fnL h L u x) : hs u j = false → h j ≠ x := fun e z => by
  have := fa_first_no _ _ _ hj
  simp [e, z] at this
theorem fnL_yes {h : Nat → Int64} {L : Nat} {u x : Int64} (hl : fnL h L u x < L) : hs u (fnL h L u x) = false ∧ h (fnL h L u x) = x := by
  have := fa_first_yes _ _ hl
  rw [Bool.and_eq_true] at this
  obtain ⟨h1, h2⟩ := this
  change (!hs u (fnL h L u x)) = true at h1
  change decide (h (fnL h L u x) = x) = true at h2
  exact ⟨by simpa using h1, by simpa using h2⟩
theorem s_lineWith {L : Nat} (hL : L ≤ 45) {x fr u : Int64} {h st : Nat → Int64} (hs' : ∀ j, j < L → st j = h j) (hf : ∀ j, j < L → hs fr j = !hs u j) {Q : Int32 → Prop} (h1 : fnL h L u x < L → Q (nI (fnL h L u x))) (h2 : fnL h L u x = L → Q (-9)) : w_X2_lineWith x fr (nI L) st Q := by
  refine lpq (fun n i => w_X2_lineWith_3 x fr (nI L) st Q n (nI i)) (fnL h L u x) 0 (Nat.zero_le _) (fun n => ?_) (fun n i _ hi ih => ?_)
  · have hle := fnL_le (h := h) (L := L) (u := u) (x := x)
    refine pk_le L (fnL h L u x) (fun c => h2 (by omega)) (fun c => ?_)
    obtain ⟨y1, y2⟩ := fnL_yes c
    refine s_has (by omega) (fun _ => ⟨fun d => absurd d (by decide), fun _ => ⟨in45 (by omega), ?_⟩⟩) (fun b => ?_)
    · rw [cl45 (by omega), lgc, hs' _ c]
      exact ⟨fun d => absurd y2 d, fun _ => h1 c⟩
    · rw [hf _ c, y1] at b; cases b
  · have hle := fnL_le (h := h) (L := L) (u := u) (x := x)
    refine pk_le L i (fun c => by omega) (fun _ => s_has (by omega) (fun b => ⟨fun d => absurd d (by decide), fun _ => ⟨in45 (by omega), ?_⟩⟩) (fun b => ⟨fun _ => ?_, fun d => absurd rfl d⟩))
    · rw [cl45 (by omega), lgc, hs' _ (by omega)]
      refine ⟨fun _ => ?_, fun d => ?_⟩
      · show w_X2_lineWith_3 _ _ _ _ _ n (nI i + 1)
        rw [nI_1]; exact ih
      · rw [hf _ (by omega)] at b
        exact absurd d (fnL_no hi (by simpa using b))
    · show w_X2_lineWith_3 _ _ _ _ _ n (nI i + 1)
      rw [nI_1]; exact ih
theorem s_linesFit {P L : Nat} (hP : P ≤ 45) (hL : L ≤ 45) {g h sg sh : Nat → Int64} (hg : ∀ l, l < L → sg l = g l) (hh : ∀ l, l < L → sh l = h l) {im : Nat → Int32} {Q : Int32 → Prop} (q : Q (if fit g h P L im then 1 else 0)) : w_X2_linesFit im (nI P) (nI L) sg (nI L) sh Q := by
  refine s_below (by omega) ?_
  have key : ∀ m i u fr, m + i = L → fitU g h P L im i = some u → (∀ j, j < L → hs fr j = !hs u j) → ∃ n, w_X2_linesFit_11 im (nI P) (nI L) sg (nI L) sh Q n fr (nI i) := by
    intro m
    induction m with
    | zero =>
      intro i u fr hm hu _
      have : i = L := by omega
      subst this
      refine ⟨1, pk_le i i (fun _ => ⟨Or.inr rfl, ?_⟩) (fun c => by omega)⟩
      unfold fit at q
      rw [hu] at q
      exact q
    | succ m ih =>
      intro i u fr hm hu hf
      have e : fitU g h P L im (i + 1) = if fnL h L u (imgF im (g i) P) < L then some (u ||| vshl 1 (nI (fnL h L u (imgF im (g i) P)))) else none := by rw [fitU, hu]
      by_cases c : fnL h L u (imgF im (g i) P) < L
      · rw [if_pos c] at e
        obtain ⟨n, hn⟩ := ih (i + 1) _ (fr &&& ((vshl 1 (nI (fnL h L u (imgF im (g i) P)))) ^^^ (-1))) (by omega) e (fun j hj => by
          rw [hs_and, hs_not _ (by omega), hs_or, hf j hj]
          cases hs u j <;> cases hs (vshl 1 (nI (fnL h L u (imgF im (g i) P)))) j <;> rfl)
        refine ⟨n + 1, pk_le L i (fun d => by omega) (fun _ => ⟨in45 (by omega), ?_⟩)⟩
        rw [cl45 (by omega), hg i (by omega)]
        refine s_imageOf hP (s_lineWith hL hh hf (fun _ => ⟨fun _ => ?_, fun d => ?_⟩) (fun d => by omega))
        · rw [nI_1]; exact hn
        · have hpos := nI_pos (n := fnL h L u (imgF im (g i) P)) (by omega)
          rw [d] at hpos
          exact absurd (by decide) hpos
      · rw [if_neg c] at e
        refine ⟨1, pk_le L i (fun d => by omega) (fun _ => ⟨in45 (by omega), ?_⟩)⟩
        rw [cl45 (by omega), hg i (by omega)]
        refine s_imageOf hP (s_lineWith hL hh hf (fun d => absurd d c) (fun _ => ⟨fun d => absurd rfl d, fun _ => ⟨Or.inl rfl, ?_⟩⟩))
        have := fitU_none e (L - (i + 1))
        rw [show i + 1 + (L - (i + 1)) = L by omega] at this
        unfold fit at q
        rw [this] at q
        exact q
  exact key L 0 0 (blw L) rfl rfl (fun j hj => by rw [hs_blw (by omega), hs_0]; simp [hj])
/-- (level + 1, tries, found, images, used by level, what is left by level) -/
abbrev MS : Type := Nat × Nat × Bool × (Nat → Int32) × (Nat → Int64) × (Nat → Int64)
abbrev ml (s : MS) : Nat := s.1
abbrev mt' (s : MS) : Nat := s.2.1
abbrev mf (s : MS) : Bool := s.2.2.1
abbrev mi (s : MS) : Nat → Int32 := s.2.2.2.1
abbrev mU (s : MS) : Nat → Int64 := s.2.2.2.2.1
abbrev mC (s : MS) : Nat → Int64 := s.2.2.2.2.2
def wnt (g : Nat → Int64) (L : Nat) (im : Nat → Int32) (p : Nat) : Int64 := imgF im (nrs g L p &&& blw p) p
def cdM (g h : Nat → Int64) (L : Nat) (im : Nat → Int32) (U : Int64) (p n : Nat) : Int64 := cdA U (pop (thr g L p)) (fun q => pop (thr h L q)) (nrs h L) (wnt g L im p) n
def opM (g h : Nat → Int64) (P L l t : Nat) (f : Bool) (im : Nat → Int32) (U C : Nat → Int64) : MS := if l - 1 = P then (l, t, fit g h P L im, im, U, vp_updL C (l - 1) 0) else (l, t, f, im, U, vp_updL C (l - 1) (cdM g h L im (U (l - 1)) (l - 1) P))
def ppM (s : MS) : MS := (ml s - 1, mt' s, mf s, mi s, mU s, mC s)
def psM (g h : Nat → Int64) (P L : Nat) (s : MS) : MS := opM g h P L (ml s + 1) (mt' s + 1) (mf s) (upd (mi s) (ml s - 1) (nI (lst (mC s (ml s - 1))))) (vp_updL (mU s) (ml s) (mU s (ml s - 1) ||| vshl 1 (nI (lst (mC s (ml s - 1)))))) (vp_updL (mC s) (ml s - 1) (mC s (ml s - 1) &&& (vshl 1 (nI (lst (mC s (ml s - 1)))) ^^^ (-1))))
abbrev MO : Type := Bool × Nat × Bool × (Nat → Int32)
def mkr (g h : Nat → Int64) (P L n : Nat) : Nat → MS → MO
  | 0, s => (false, mt' s, mf s, mi s)
  | f + 1, s => if ml s = 0 then (false, mt' s, mf s, mi s) else if mf s = true then (false, mt' s, mf s, mi s) else if mC s (ml s - 1) = 0 then mkr g h P L n f (ppM s) else if mt' s = n then (true, mt' s, mf s, mi s) else mkr g h P L n f (psM g h P L s)
def aInv (P : Nat) (s : MS) : Prop := ml s ≤ P + 1 ∧ (∀ q, q + 1 < ml s → num (mi s q) P) ∧ (∀ q q', q < q' → q' + 1 < ml s → mi s q ≠ mi s q') ∧ ∀ p, p < ml s → (∀ k, hs (mU s p) k = true ↔ k < P ∧ ∃ q, q < p ∧ mi s q = nI k) ∧ (∀ c, hs (mC s p) c = true → c < P ∧ hs (mU s p) c = false) ∧ (p = P → mC s p = 0)
theorem opM_l {g h : Nat → Int64} {P L l t : Nat} {f : Bool} {im : Nat → Int32} {U C : Nat → Int64} : ml (opM g h P L l t f im U C) = l ∧ mt' (opM g h P L l t f im U C) = t ∧ mi (opM g h P L l t f im U C) = im ∧ mU (opM g h P L l t f im U C) = U := by
  unfold opM
  split <;> exact ⟨rfl, rfl, rfl, rfl⟩
theorem opM_C {g h : Nat → Int64} {P L l t : Nat} {f : Bool} {im : Nat → Int32} {U C : Nat → Int64} {p : Nat} (hp : p ≠ l - 1) : mC (opM g h P L l t f im U C) p = C p := by
  unfold opM
  split <;> exact upL_ne hp
theorem opM_top {g h : Nat → Int64} {P L l t : Nat} {f : Bool} {im : Nat → Int32} {U C : Nat → Int64} (hP : P ≤ 45) : (∀ c, hs (mC (opM g h P L l t f im U C) (l - 1)) c = true → c < P ∧ hs (U (l - 1)) c = false) ∧ (l - 1 = P → mC (opM g h P L l t f im U C) (l - 1) = 0) := by
  unfold opM
  by_cases e : l - 1 = P
  · rw [if_pos e]
    show (∀ c, hs (vp_updL C (l - 1) 0 (l - 1)) c = true → _) ∧ (_ → vp_updL C (l - 1) 0 (l - 1) = 0)
    rw [vp_updL_same]
    exact ⟨fun c hc => (by rw [hs_0] at hc; cases hc), fun _ => rfl⟩
  · rw [if_neg e]
    show (∀ c, hs (vp_updL C (l - 1) _ (l - 1)) c = true → _) ∧ (_ → vp_updL C (l - 1) _ (l - 1) = 0)
    rw [vp_updL_same]
    refine ⟨fun c hc => ?_, fun z => absurd z e⟩
    obtain ⟨h1, h2, -⟩ := (hs_cdA c P hP).mp hc
    exact ⟨h1, h2⟩
theorem psM_inv {g h : Nat → Int64} {P L : Nat} (hP : P ≤ 45) {s : MS} (hi : aInv P s) (hl : 1 ≤ ml s) (h0 : mC s (ml s - 1) ≠ 0) : aInv P (psM g h P L s) ∧ lst (mC s (ml s - 1)) < P ∧ ml s ≤ P := by
  obtain ⟨i1, i2, i3, i4⟩ := hi
  obtain ⟨k1, k2⟩ := lst_in h0
  obtain ⟨b1, b2, b3⟩ := i4 (ml s - 1) (by omega)
  obtain ⟨c1, c2⟩ := b2 _ k1
  have hlP : ml s ≤ P := Classical.byContradiction fun z => h0 (b3 (by omega))
  generalize hk : lst (mC s (ml s - 1)) = k at k1 k2 c1 c2
  refine ⟨?_, c1, hlP⟩
  unfold psM
  rw [hk]
  generalize hC : vp_updL (mC s) (ml s - 1) (mC s (ml s - 1) &&& (vshl 1 (nI k) ^^^ (-1))) = C
  generalize hU : vp_updL (mU s) (ml s) (mU s (ml s - 1) ||| vshl 1 (nI k)) = U
  obtain ⟨e1, e2, e3, e4⟩ := opM_l (g := g) (h := h) (P := P) (L := L) (l := ml s + 1) (t := mt' s + 1) (f := mf s) (im := upd (mi s) (ml s - 1) (nI k)) (U := U) (C := C)
  have imo : ∀ q, q + 1 < ml s → upd (mi s) (ml s - 1) (nI k) q = mi s q := fun q hq => upd_ne (by omega)
  have new : ∀ q, q + 1 < ml s → mi s q ≠ nI k := fun q hq z => by
    have := (b1 k).mpr ⟨c1, q, by omega, z⟩
    rw [c2] at this; cases this
  unfold aInv
  rw [e1, e3, e4]
  refine ⟨by omega, fun q hq => ?_, fun q q' hqq hq' => ?_, fun p hp => ?_⟩
  · by_cases c : q = ml s - 1
    · rw [c, upd_same]; exact ⟨k, c1, rfl⟩
    · rw [imo q (by omega)]; exact i2 q (by omega)
  · by_cases c : q' = ml s - 1
    · rw [c, upd_same, imo q (by omega)]; exact new q (by omega)
    · rw [imo q (by omega), imo q' (by omega)]; exact i3 q q' hqq (by omega)
  · by_cases c : p = ml s
    · subst c
      have ht := opM_top (g := g) (h := h) (L := L) (l := ml s + 1) (t := mt' s + 1) (f := mf s) (im := upd (mi s) (ml s - 1) (nI k)) (U := U) (C := C) hP
      rw [Nat.add_sub_cancel] at ht
      refine ⟨fun j => ?_, ht.1, ht.2⟩
      rw [← hU, vp_updL_same, hs_or, Bool.or_eq_true, b1 j, hs_one (by omega)]
      constructor
      · rintro (⟨z1, q, z2, z3⟩ | z)
        · exact ⟨z1, q, by omega, by rw [imo q (by omega)]; exact z3⟩
        · have : j = k := by simpa using z
          subst this
          exact ⟨c1, ml s - 1, by omega, upd_same _ _ _⟩
      · rintro ⟨z1, q, z2, z3⟩
        by_cases d : q = ml s - 1
        · rw [d, upd_same] at z3
          have := (nI_eq (by omega) (by omega)).mp z3
          right; simp [this]
        · rw [imo q (by omega)] at z3
          exact Or.inl ⟨z1, q, by omega, z3⟩
    · obtain ⟨d1, d2, d3⟩ := i4 p (by omega)
      rw [opM_C (by omega), ← hU, ← hC, upL_ne c]
      refine ⟨fun j => (d1 j).trans (and_congr_right fun _ => ⟨fun ⟨q, z2, z3⟩ => ⟨q, z2, by rw [imo q (by omega)]; exact z3⟩, fun ⟨q, z2, z3⟩ => ⟨q, z2, by rw [imo q (by omega)] at z3; exact z3⟩⟩), ?_, ?_⟩
      · by_cases e : p = ml s - 1
        · rw [e, vp_updL_same]
          intro c hc
          rw [hs_and, Bool.and_eq_true] at hc
          exact b2 c hc.1
        · rw [upL_ne e]; exact d2
      · intro z; omega
theorem ppM_inv {P : Nat} {s : MS} (h : aInv P s) : aInv P (ppM s) := by
  obtain ⟨i1, i2, i3, i4⟩ := h
  refine ⟨by show ml s - 1 ≤ P + 1; omega, fun q hq => i2 q (by have : q + 1 < ml s - 1 := hq; omega), fun q q' h1 h2 => i3 q q' h1 (by have : q' + 1 < ml s - 1 := h2; omega), fun p hp => i4 p (by have : p < ml s - 1 := hp; omega)⟩
theorem psM_l {g h : Nat → Int64} {P L : Nat} {s : MS} : ml (psM g h P L s) = ml s + 1 ∧ mt' (psM g h P L s) = mt' s + 1 := by
  unfold psM
  exact ⟨opM_l.1, opM_l.2.1⟩
def m0 (g h : Nat → Int64) (P L : Nat) (im : Nat → Int32) (U C : Nat → Int64) : MS := opM g h P L 1 0 false im (vp_updL U 0 0) C
theorem m0_inv {g h : Nat → Int64} {P L : Nat} (hP : P ≤ 45) (im : Nat → Int32) (U C : Nat → Int64) : aInv P (m0 g h P L im U C) := by
  have ht := opM_top (g := g) (h := h) (L := L) (l := 1) (t := 0) (f := false) (im := im) (U := vp_updL U 0 0) (C := C) hP
  unfold m0 aInv
  rw [opM_l.1, opM_l.2.2.1, opM_l.2.2.2]
  refine ⟨by omega, fun q hq => by omega, fun q q' _ hq => by omega, fun p hp => ?_⟩
  have : p = 0 := by omega
  subst this
  refine ⟨fun k => ?_, ht.1, ht.2⟩
  rw [vp_updL_same, hs_0]
  exact ⟨fun z => (by cases z), fun ⟨_, q, hq, _⟩ => absurd hq (Nat.not_lt_zero _)⟩
