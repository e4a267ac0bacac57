/-! searches: the least of a set; the search of the seekers, as a machine that takes one or goes back -/
theorem pop_blw {k : Nat} (hk : k < 64) : pop (blw k) = k := by
  unfold pop
  have e : fb_ct (hs (blw k)) 64 = fb_ct (fun i => decide (i < k)) 64 := fb_ct_cong (fun i _ => hs_blw hk i)
  rw [e, show 64 = k + (64 - k) by omega, fb_ct_split]
  have e1 : fb_ct (fun i => decide (i < k)) k = k := fb_ct_all.mpr (fun i hi => by simp [hi])
  have e2 : fb_ct (fun i => decide (k + i < k)) (64 - k) = 0 := fb_ct_zero.mpr (fun i _ => by simp)
  rw [e1, e2, Nat.add_zero]
theorem pop_zero : pop 0 = 0 := fb_ct_zero.mpr (fun k _ => hs_0 k)
theorem pop_m1 : pop (-1) = 64 := fb_ct_all.mpr (fun k hk => hs_m1 hk)
/-- the least -/
def lst (x : Int64) : Nat := fa_first (hs x) 64
theorem lst_at {x : Int64} {k : Nat} (h : hs x k = true) (hm : ∀ j, j < k → hs x j = false) : lst x = k := by
  have hk : k < 64 := Classical.byContradiction fun z => by rw [hs_big (by omega)] at h; cases h
  have h1 : ¬ k < lst x := fun z => by
    have := fa_first_no (hs x) 64 k z
    rw [h] at this; cases this
  have h2 : ¬ lst x < k := fun z => by
    have := fa_first_yes (hs x) 64 (show fa_first (hs x) 64 < 64 by unfold lst at z; omega)
    have h3 := hm _ z
    unfold lst at h3
    rw [this] at h3; cases h3
  omega
theorem lst_in {x : Int64} (h : x ≠ 0) : hs x (lst x) = true ∧ ∀ j, j < lst x → hs x j = false := by
  have hb : lst x < 64 := Classical.byContradiction fun z => h ((zero_iff x).mpr (fun k hk => fa_first_no (hs x) 64 k (by unfold lst at z; omega)))
  exact ⟨fa_first_yes (hs x) 64 hb, fun j hj => fa_first_no (hs x) 64 j hj⟩
theorem lst_0 : lst 0 = 64 := by
  have := fa_first_le (hs 0) 64
  have h : ¬ lst 0 < 64 := fun z => by
    have := fa_first_yes (hs 0) 64 z
    rw [hs_0] at this; cases this
  unfold lst at h ⊢
  omega
theorem low_bit {x : Int64} {k : Nat} (hk : k < 64) (h : hs x k = true) (hm : ∀ j, j < k → hs x j = false) : (x &&& (-x)) - 1 = blw k := by
  have e : (x &&& (-x)) = vshl 1 (nI k) := hs_ext (fun i hi => by
    rw [hs_and, hs_one hk]
    have e1 : hs (-x) i = (hs x i ^^ decide (i < 64) && decide (∃ j, j < i ∧ hs x j = true)) := by
      unfold hs
      rw [Int64.toBitVec_neg]
      exact BitVec.getLsbD_neg
    rw [e1]
    by_cases c : i < k
    · rw [hm i c]
      simp only [Bool.false_and]
      have : ¬ i = k := by omega
      simp [this]
    · by_cases c2 : i = k
      · subst c2
        rw [h]
        have : ¬ ∃ j, j < i ∧ hs x j = true := by
          rintro ⟨j, h1, h2⟩
          rw [hm j h1] at h2; cases h2
        simp [this]
      · have : ∃ j, j < i ∧ hs x j = true := ⟨k, by omega, h⟩
        simp only [this, hi, decide_true, Bool.and_true, c2, decide_false]
        cases hs x i <;> rfl)
  rw [e, vshl_below hk]
theorem s_leastOf {x : Int64} {Q : Int32 → Prop} (h : Q (nI (lst x))) : w_X6_leastOf x Q := by
  refine s_bitCount ?_
  by_cases c : x = 0
  · subst c
    rw [lst_0] at h
    have e : ((0 : Int64) &&& (-0)) - 1 = -1 := by decide
    rw [e, pop_m1]
    exact h
  · obtain ⟨h1, h2⟩ := lst_in c
    have hk : lst x < 64 := Classical.byContradiction fun z => by rw [hs_big (by omega)] at h1; cases h1
    rw [low_bit hk h1 h2, pop_blw hk]
    exact h
/-- what can be taken: of the choices, those that meet nothing that is met -/
def cdF (ch : Int64) (mt : Nat → Int64) (M : Int64) : Nat → Int64
  | 0 => 0
  | c + 1 => if hs ch c = true ∧ (mt c &&& M) = 0 then cdF ch mt M c ||| vshl 1 (nI c) else cdF ch mt M c
theorem hs_cdF (ch : Int64) (mt : Nat → Int64) (M : Int64) (k : Nat) : ∀ n, n ≤ 45 → (hs (cdF ch mt M n) k = true ↔ k < n ∧ hs ch k = true ∧ (mt k &&& M) = 0)
  | 0, _ => by
    rw [cdF, hs_0]
    exact ⟨fun h => (by cases h), fun h => absurd h.1 (Nat.not_lt_zero _)⟩
  | n + 1, hn => by
    have ih := hs_cdF ch mt M k n (by omega)
    rw [cdF]
    by_cases c : hs ch n = true ∧ (mt n &&& M) = 0
    · rw [if_pos c, hs_or, Bool.or_eq_true, ih, hs_one (by omega)]
      constructor
      · rintro (⟨h1, h2⟩ | h1)
        · exact ⟨by omega, h2⟩
        · have : k = n := by simpa using h1
          rw [this]; exact ⟨by omega, c⟩
      · rintro ⟨h1, h2⟩
        by_cases e : k = n
        · right; simp [e]
        · exact Or.inl ⟨by omega, h2⟩
    · rw [if_neg c, ih]
      constructor
      · rintro ⟨h1, h2⟩; exact ⟨by omega, h2⟩
      · rintro ⟨h1, h2⟩
        by_cases e : k = n
        · rw [e] at h2; exact absurd h2 c
        · exact ⟨by omega, h2⟩
/-- (level + 1, tries, found, the last found, what is met by level, what is taken by level, what can be taken by level) -/
abbrev SS : Type := Nat × Nat × Nat × Int64 × (Nat → Int64) × (Nat → Int64) × (Nat → Int64)
abbrev sl (s : SS) : Nat := s.1
abbrev st (s : SS) : Nat := s.2.1
abbrev sf (s : SS) : Nat := s.2.2.1
abbrev sq (s : SS) : Int64 := s.2.2.2.1
abbrev sM (s : SS) : Nat → Int64 := s.2.2.2.2.1
abbrev sT (s : SS) : Nat → Int64 := s.2.2.2.2.2.1
abbrev sC (s : SS) : Nat → Int64 := s.2.2.2.2.2.2
def gl (G : Nat) (M : Int64) : Nat := lst (M ^^^ (-1))
/-- a level that is just come to -/
def opS (G : Nat) (ch mt : Nat → Int64) (l t f : Nat) (q : Int64) (M T C : Nat → Int64) : SS := if M (l - 1) = blw G then (l, t, f + 1, T (l - 1), M, T, vp_updL C (l - 1) 0) else (l, t, f, q, M, T, vp_updL C (l - 1) (cdF (ch (gl G (M (l - 1)))) mt (M (l - 1)) 45))
def ppS (s : SS) : SS := (sl s - 1, st s, sf s, sq s, sM s, sT s, sC s)
def psS (G : Nat) (ch mt : Nat → Int64) (s : SS) : SS := opS G ch mt (sl s + 1) (st s + 1) (sf s) (sq s) (vp_updL (sM s) (sl s) (sM s (sl s - 1) ||| mt (lst (sC s (sl s - 1))))) (vp_updL (sT s) (sl s) (sT s (sl s - 1) ||| vshl 1 (nI (lst (sC s (sl s - 1)))))) (vp_updL (sC s) (sl s - 1) (sC s (sl s - 1) &&& (vshl 1 (nI (lst (sC s (sl s - 1)))) ^^^ (-1))))
/-- (spent, tries, found, the last found) -/
abbrev SO : Type := Bool × Nat × Nat × Int64
def skr (G : Nat) (ch mt : Nat → Int64) (n : Nat) (e : Bool) : Nat → SS → SO
  | 0, s => (false, st s, sf s, sq s)
  | f + 1, s => if sl s = 0 then (false, st s, sf s, sq s) else if 0 < sf s ∧ e = false then (false, st s, sf s, sq s) else if sC s (sl s - 1) = 0 then skr G ch mt n e f (ppS s) else if st s = n then (true, st s, sf s, sq s) else skr G ch mt n e f (psS G ch mt s)
/-- what choices and meetings are to each other: goals G, things N -/
def chM (G N : Nat) (ch mt : Nat → Int64) : Prop := G ≤ 45 ∧ N ≤ 45 ∧ (∀ g, g < G → ∀ k, hs (ch g) k = true → k < N ∧ hs (mt k) g = true) ∧ ∀ k, k < N → ∀ g, hs (mt k) g = true → g < G
def sInv (G N : Nat) (mt : Nat → Int64) (s : SS) : Prop := ∀ p, p < sl s → (∀ g, hs (sM s p) g = true → g < G) ∧ p ≤ pop (sM s p) ∧ pop (sT s p) = p ∧ (∀ c, hs (sT s p) c = true → c < N ∧ ∀ g, hs (mt c) g = true → hs (sM s p) g = true) ∧ ∀ c, hs (sC s p) c = true → c < N ∧ ∃ g, g < G ∧ hs (mt c) g = true ∧ hs (sM s p) g = false
theorem gl_is {G : Nat} {M : Int64} (hG : G ≤ 45) (hM : ∀ g, hs M g = true → g < G) (hne : M ≠ blw G) : gl G M < G ∧ hs M (gl G M) = false ∧ ∀ j, j < gl G M → hs M j = true := by
  have hx : ∃ g, g < G ∧ hs M g = false := by
    apply Classical.byContradiction
    intro z
    refine hne (hs_iff (fun k _ => ⟨fun h => by rw [hs_blw (by omega)]; simp [hM k h], fun h => ?_⟩))
    rw [hs_blw (by omega)] at h
    have hk : k < G := by simpa using h
    cases hb : hs M k
    · exact absurd ⟨k, hk, hb⟩ z
    · rfl
  obtain ⟨g, hg, hb⟩ := hx
  have h0 : (M ^^^ (-1)) ≠ 0 := fun z => by
    have := (zero_iff _).mp z g (by omega)
    rw [hs_not _ (by omega), hb] at this
    cases this
  obtain ⟨h1, h2⟩ := lst_in h0
  have hl : lst (M ^^^ (-1)) ≤ g := Classical.byContradiction fun z => by
    have := h2 g (by omega)
    rw [hs_not _ (by omega), hb] at this
    cases this
  refine ⟨by show lst _ < G; omega, ?_, fun j hj => ?_⟩
  · rw [hs_not _ (by omega)] at h1
    show hs M (lst (M ^^^ (-1))) = false
    cases hc : hs M (lst (M ^^^ (-1)))
    · rfl
    · rw [hc] at h1; cases h1
  · have := h2 j hj
    rw [hs_not _ (by have : j < lst (M ^^^ (-1)) := hj; omega)] at this
    cases hc : hs M j
    · rw [hc] at this; cases this
    · rfl
theorem upL_ne {f : Nat → Int64} {k j : Nat} {x : Int64} (h : j ≠ k) : vp_updL f k x j = f j := pk_uLn h
theorem and_zero {x y : Int64} : (x &&& y) = 0 ↔ ∀ g, g < 64 → hs x g = true → hs y g = false := by
  rw [zero_iff]
  constructor
  · intro h g hg hx
    have := h g hg
    rw [hs_and, hx] at this
    simpa using this
  · intro h g hg
    rw [hs_and]
    cases hx : hs x g
    · rfl
    · rw [h g hg hx]; rfl
/-- opening a level keeps what is known, if the level itself is so -/
theorem op_inv {G N : Nat} {ch mt : Nat → Int64} (hc : chM G N ch mt) {l t f : Nat} {q : Int64} {M T C : Nat → Int64} (hl : 1 ≤ l) (h : ∀ p, p < l → (∀ g, hs (M p) g = true → g < G) ∧ p ≤ pop (M p) ∧ pop (T p) = p ∧ (∀ c, hs (T p) c = true → c < N ∧ ∀ g, hs (mt c) g = true → hs (M p) g = true) ∧ (p < l - 1 → ∀ c, hs (C p) c = true → c < N ∧ ∃ g, g < G ∧ hs (mt c) g = true ∧ hs (M p) g = false)) : sInv G N mt (opS G ch mt l t f q M T C) := by
  unfold opS
  by_cases e : M (l - 1) = blw G
  · rw [if_pos e]
    intro p hp
    obtain ⟨h1, h2, h3, h4, h5⟩ := h p hp
    refine ⟨h1, h2, h3, h4, fun c hcc => ?_⟩
    change hs (vp_updL C (l - 1) 0 p) c = true at hcc
    by_cases e2 : p = l - 1
    · rw [e2, vp_updL_same, hs_0] at hcc; cases hcc
    · rw [upL_ne e2] at hcc
      exact h5 (by have : p < l := hp; omega) c hcc
  · rw [if_neg e]
    intro p hp
    obtain ⟨h1, h2, h3, h4, h5⟩ := h p hp
    refine ⟨h1, h2, h3, h4, fun c hcc => ?_⟩
    change hs (vp_updL C (l - 1) _ p) c = true at hcc
    by_cases e2 : p = l - 1
    · rw [e2, vp_updL_same, hs_cdF _ _ _ _ _ (by omega)] at hcc
      obtain ⟨g1, g2, -⟩ := gl_is hc.1 (h (l - 1) (by omega)).1 e
      obtain ⟨b1, b2⟩ := hc.2.2.1 _ g1 c hcc.2.1
      refine ⟨b1, _, g1, b2, ?_⟩
      rw [e2]; exact g2
    · rw [upL_ne e2] at hcc
      exact h5 (by have : p < l := hp; omega) c hcc
theorem pop_or_one {x : Int64} {c : Nat} (hc : c < 64) (h : hs x c = false) : pop (x ||| vshl 1 (nI c)) = pop x + 1 := by
  have e := fb_ct_upd (hs x) true hc
  rw [h] at e
  simp only [Bool.false_eq_true, if_false, Nat.add_zero, if_true] at e
  have e2 : pop (x ||| vshl 1 (nI c)) = fb_ct (fun i => if i = c then true else hs x i) 64 := fb_ct_cong (fun i _ => by
    rw [hs_or, hs_one hc]
    by_cases d : i = c
    · simp [d]
    · simp [d])
  unfold pop at e2 ⊢
  omega
theorem ps_inv {G N : Nat} {ch mt : Nat → Int64} (hc : chM G N ch mt) {s : SS} (h : sInv G N mt s) (hl : 1 ≤ sl s) (h0 : sC s (sl s - 1) ≠ 0) : sInv G N mt (psS G ch mt s) ∧ lst (sC s (sl s - 1)) < N ∧ sl s ≤ 45 := by
  obtain ⟨h1, h2, h3, h4, h5⟩ := h (sl s - 1) (by omega)
  obtain ⟨k1, k2⟩ := lst_in h0
  obtain ⟨c1, g, c2, c3, c4⟩ := h5 _ k1
  generalize hk : lst (sC s (sl s - 1)) = k at k1 k2 c1 c3
  have hN := hc.2.1
  have hM1 : sl s ≤ pop (sM s (sl s - 1) ||| mt k) := by
    have := pop_lt (x := sM s (sl s - 1)) (y := sM s (sl s - 1) ||| mt k) (fun i hi => by rw [hs_or, hi]; rfl) (k := g) (by rw [hs_or, c3, Bool.or_true]) c4
    omega
  have hG : ∀ g', hs (sM s (sl s - 1) ||| mt k) g' = true → g' < G := fun g' hg' => by
    rw [hs_or, Bool.or_eq_true] at hg'
    rcases hg' with hg' | hg'
    · exact h1 g' hg'
    · exact hc.2.2.2 k c1 g' hg'
  have hpG : pop (sM s (sl s - 1) ||| mt k) ≤ 45 := by
    rw [pop_45 (fun i hi => bool_ff (fun z => by have := hG i z; have := hc.1; omega))]
    exact fb_ct_le _ _
  refine ⟨?_, c1, by omega⟩
  unfold psS
  rw [hk]
  refine op_inv hc (by omega) (fun p hp => ?_)
  by_cases e : p = sl s
  · subst e
    rw [vp_updL_same, vp_updL_same]
    refine ⟨hG, hM1, ?_, fun c hcc => ?_, fun z => absurd z (by omega)⟩
    · have hT : hs (sT s (sl s - 1)) k = false := bool_ff (fun z => by
        have := (h4 k z).2 g c3
        rw [c4] at this; cases this)
      rw [pop_or_one (by omega) hT, h3]
      omega
    · rw [hs_or, Bool.or_eq_true, hs_one (by omega)] at hcc
      rcases hcc with hcc | hcc
      · obtain ⟨b1, b2⟩ := h4 c hcc
        exact ⟨b1, fun g' hg' => by rw [hs_or, b2 g' hg']; rfl⟩
      · have : c = k := by simpa using hcc
        subst this
        exact ⟨c1, fun g' hg' => by rw [hs_or, hg', Bool.or_true]⟩
  · rw [upL_ne e, upL_ne e]
    obtain ⟨d1, d2, d3, d4, d5⟩ := h p (by omega)
    refine ⟨d1, d2, d3, d4, fun _ c hcc => ?_⟩
    by_cases e2 : p = sl s - 1
    · rw [e2, vp_updL_same, hs_and, Bool.and_eq_true] at hcc
      rw [e2] at d5 ⊢
      exact d5 c hcc.1
    · rw [upL_ne e2] at hcc
      exact d5 c hcc
theorem pp_inv {G N : Nat} {mt : Nat → Int64} {s : SS} (h : sInv G N mt s) : sInv G N mt (ppS s) := fun p hp => h p (by
  have : p < sl s - 1 := hp
  omega)
theorem ps_l {G : Nat} {ch mt : Nat → Int64} {s : SS} : sl (psS G ch mt s) = sl s + 1 ∧ st (psS G ch mt s) = st s + 1 ∧ sf (psS G ch mt s) ≤ sf s + 1 ∧ (sf s ≤ sf (psS G ch mt s)) := by
  unfold psS opS
  split
  · exact ⟨rfl, rfl, Nat.le_refl _, Nat.le_succ _⟩
  · exact ⟨rfl, rfl, Nat.le_succ _, Nat.le_refl _⟩
/-- the first level -/
def s0 (G : Nat) (ch mt : Nat → Int64) (q : Int64) (M T C : Nat → Int64) : SS := opS G ch mt 1 0 0 q (vp_updL M 0 0) (vp_updL T 0 0) C
theorem s0_inv {G N : Nat} {ch mt : Nat → Int64} (hc : chM G N ch mt) (q : Int64) (M T C : Nat → Int64) : sInv G N mt (s0 G ch mt q M T C) := by
  refine op_inv hc (Nat.le_refl _) (fun p hp => ?_)
  have : p = 0 := by omega
  subst this
  rw [vp_updL_same, vp_updL_same]
  refine ⟨fun g hg => ?_, Nat.zero_le _, pop_zero, fun c hcc => ?_, fun z => absurd z (by omega)⟩
  · rw [hs_0] at hg; cases hg
  · rw [hs_0] at hcc; cases hcc
