/-! worlds that are right: what is made about a point -/
theorem pop_two {x : Int64} {p q : Nat} (hp : hs x p = true) (hq : hs x q = true) (hne : p ≠ q) : 2 ≤ pop x := by
  have hp64 : p < 64 := Classical.byContradiction fun z => by rw [hs_big (by omega)] at hp; cases hp
  have h1 : pop (vshl 1 (nI p)) = 1 := by
    have := pop_or_one (x := 0) hp64 (hs_0 p)
    rw [pop_zero] at this
    have e : (0 : Int64) ||| vshl 1 (nI p) = vshl 1 (nI p) := hs_ext (fun k _ => by rw [hs_or, hs_0, Bool.false_or])
    rw [e] at this
    omega
  have := pop_lt (x := vshl 1 (nI p)) (y := x) (fun k hk => by
    rw [hs_one hp64] at hk
    have : k = p := by simpa using hk
    rw [this]; exact hp) hq (by
    rw [hs_one hp64]
    have : ¬ q = p := fun z => hne z.symm
    simp [this])
  omega
theorem two_pop {x : Int64} (h : 2 ≤ pop x) : ∃ p q, p ≠ q ∧ hs x p = true ∧ hs x q = true := by
  obtain ⟨p, hp⟩ := pop_ex (x := x) (by omega)
  have hp64 : p < 64 := Classical.byContradiction fun z => by rw [hs_big (by omega)] at hp; cases hp
  apply Classical.byContradiction
  intro z
  have hsub : ∀ k, hs x k = true → hs (vshl 1 (nI p)) k = true := fun k hk => by
    rw [hs_one hp64]
    by_cases c : k = p
    · simp [c]
    · exact absurd ⟨p, k, fun e => c e.symm, hp, hk⟩ z
  have := pop_sub hsub
  have h1 : pop (vshl 1 (nI p)) = 1 := by
    have := pop_or_one (x := 0) hp64 (hs_0 p)
    rw [pop_zero] at this
    have e : (0 : Int64) ||| vshl 1 (nI p) = vshl 1 (nI p) := hs_ext (fun k _ => by rw [hs_or, hs_0, Bool.false_or])
    rw [e] at this
    omega
  omega
/-- a right world whose points are all on three lines or more, and whose lines have three points or more -/
def rightW (g : Nat → Int64) (P L : Nat) : Prop := P ≤ 45 ∧ L ≤ 45 ∧ gOK g P L ∧ (∀ a b, a < b → b < L → pop (g a &&& g b) < 2) ∧ (∀ i p, i < L → p < P → hs (g i) p = true ∨ wys g L i p = 1) ∧ (∀ p, p < P → 3 ≤ pop (thr g L p)) ∧ ∀ l, l < L → 3 ≤ pop (g l)
section
variable {g : Nat → Int64} {P L : Nat}
theorem rw_one (h : rightW g P L) {l m p q : Nat} (hl : l < L) (hm : m < L) (h1 : hs (g l) p = true) (h2 : hs (g l) q = true) (h3 : hs (g m) p = true) (h4 : hs (g m) q = true) (hne : p ≠ q) : l = m := by
  have two : ∀ a b, hs (g a) p = true → hs (g a) q = true → hs (g b) p = true → hs (g b) q = true → 2 ≤ pop (g a &&& g b) := fun a b e1 e2 e3 e4 => pop_two (p := p) (q := q) (by rw [hs_and, e1, e3]; rfl) (by rw [hs_and, e2, e4]; rfl) hne
  rcases Nat.lt_trichotomy l m with c | c | c
  · have := h.2.2.2.1 l m c hm
    have := two l m h1 h2 h3 h4
    omega
  · exact c
  · have := h.2.2.2.1 m l c hl
    have := two m l h3 h4 h1 h2
    omega
theorem meet_ne {x y : Int64} {k : Nat} (h1 : hs x k = true) (h2 : hs y k = true) : ¬ (x &&& y) = 0 := fun z => by
  have hk : k < 64 := Classical.byContradiction fun z => by rw [hs_big (by omega)] at h1; cases h1
  have := (zero_iff _).mp z k hk
  rw [hs_and, h1, h2] at this
  cases this
theorem ne_meet {x y : Int64} (h : ¬ (x &&& y) = 0) : ∃ k, hs x k = true ∧ hs y k = true := by
  apply Classical.byContradiction
  intro z
  refine h ((zero_iff _).mpr (fun k _ => bool_ff (fun z2 => z ⟨k, ?_⟩)))
  rw [hs_and, Bool.and_eq_true] at z2
  exact z2
/-- through a point off a line goes a line that meets it, -/
theorem rw_ex (h : rightW g P L) {l p : Nat} (hl : l < L) (hp : p < P) (hn : hs (g l) p = false) : ∃ j z, j < L ∧ hs (g j) p = true ∧ hs (g j) z = true ∧ hs (g l) z = true := by
  rcases h.2.2.2.2.1 l p hl hp with c | c
  · rw [hn] at c; cases c
  · unfold wys at c
    obtain ⟨j, hj, hj2⟩ := fb_ct_pos.mp (show 0 < fb_ct _ L by rw [c]; omega)
    rw [Bool.and_eq_true] at hj2
    obtain ⟨z, z1, z2⟩ := ne_meet (of_decide_eq_true hj2.2)
    exact ⟨j, z, hj, hj2.1, z1, z2⟩
/-- and just one: it meets it in one point -/
theorem rw_un (h : rightW g P L) {l p j k z w : Nat} (hl : l < L) (hp : p < P) (hn : hs (g l) p = false) (hj : j < L) (hk : k < L) (j1 : hs (g j) p = true) (j2 : hs (g j) z = true) (j3 : hs (g l) z = true) (k1 : hs (g k) p = true) (k2 : hs (g k) w = true) (k3 : hs (g l) w = true) : z = w := by
  have ejk : j = k := by
    rcases h.2.2.2.2.1 l p hl hp with c | c
    · rw [hn] at c; cases c
    · apply Classical.byContradiction
      intro hne
      unfold wys at c
      have a1 : (hs (g j) p && decide (¬ (g j &&& g l) = 0)) = true := by
        rw [j1, Bool.true_and]; exact decide_eq_true (meet_ne j2 j3)
      have a2 : (hs (g k) p && decide (¬ (g k &&& g l) = 0)) = true := by
        rw [k1, Bool.true_and]; exact decide_eq_true (meet_ne k2 k3)
      have e1 := fb_ct_upd (fun i => hs (g i) p && decide (¬ (g i &&& g l) = 0)) false hj
      rw [a1] at e1
      simp only [if_true, Bool.false_eq_true, if_false, Nat.add_zero] at e1
      have e2 : 0 < fb_ct (fun i => if i = j then false else (hs (g i) p && decide (¬ (g i &&& g l) = 0))) L := fb_ct_pos.mpr ⟨k, hk, by
        show (if k = j then false else _) = true
        rw [if_neg (fun z => hne z.symm)]; exact a2⟩
      omega
  subst ejk
  apply Classical.byContradiction
  intro hne
  have := rw_one h hj hl j2 k2 j3 k3 hne
  rw [this, hn] at j1
  cases j1
theorem near_iff (h : rightW g P L) {x y : Nat} (hx : x < P) : hs (nrs g L x) y = true ↔ y = x ∨ ∃ l, l < L ∧ hs (g l) x = true ∧ hs (g l) y = true := hs_nrs g x y (by have := h.1; omega) L
theorem near_sym (h : rightW g P L) {x y : Nat} (hx : x < P) (hy : y < P) (hn : hs (nrs g L x) y = true) : hs (nrs g L y) x = true := by
  rw [near_iff h hx] at hn
  rw [near_iff h hy]
  rcases hn with hn | ⟨l, h1, h2, h3⟩
  · exact Or.inl hn.symm
  · exact Or.inr ⟨l, h1, h3, h2⟩
theorem near_lt (h : rightW g P L) {x y : Nat} (hx : x < P) (hn : hs (nrs g L x) y = true) : y < P := nrs_in h.2.2.1 hx h.1 hn
theorem off_line {x y l : Nat} (h : rightW g P L) (hx : x < P) (hl : l < L) (hn : hs (nrs g L x) y = false) (h1 : hs (g l) x = true) : hs (g l) y = false := bool_ff (fun z => by
  rw [(near_iff h hx).mpr (Or.inr ⟨l, hl, h1, z⟩)] at hn; cases hn)
/-- on each line through x is a point near to y, if y is not near to x -/
theorem tr_ex (h : rightW g P L) {x y l : Nat} (hx : x < P) (hy : y < P) (hn : hs (nrs g L x) y = false) (hl : l < L) (h1 : hs (g l) x = true) : ∃ z, hs (g l) z = true ∧ z ≠ x ∧ hs (nrs g L x &&& nrs g L y) z = true := by
  obtain ⟨j, z, j1, j2, j3, j4⟩ := rw_ex h hl hy (off_line h hx hl hn h1)
  refine ⟨z, j4, fun e => ?_, ?_⟩
  · rw [e] at j3
    rw [(near_iff h hx).mpr (Or.inr ⟨j, j1, j3, j2⟩)] at hn; cases hn
  · rw [hs_and, (near_iff h hx).mpr (Or.inr ⟨l, hl, h1, j4⟩), (near_iff h hy).mpr (Or.inr ⟨j, j1, j2, j3⟩)]
    rfl
/-- and just one -/
theorem tr_un (h : rightW g P L) {x y l z w : Nat} (hx : x < P) (hy : y < P) (hn : hs (nrs g L x) y = false) (hl : l < L) (h1 : hs (g l) x = true) (hz : hs (g l) z = true) (hw : hs (g l) w = true) (nz : hs (nrs g L y) z = true) (nw : hs (nrs g L y) w = true) : z = w := by
  have ho := off_line h hx hl hn h1
  rw [near_iff h hy] at nz nw
  rcases nz with rfl | ⟨j, j1, j2, j3⟩
  · rw [ho] at hz; cases hz
  · rcases nw with rfl | ⟨k, k1, k2, k3⟩
    · rw [ho] at hw; cases hw
    · exact rw_un h hl hy ho j1 k1 j2 j3 hz k2 k3 hw
theorem spn_iff (hP : P ≤ 45) {N : Nat → Int64} {x y z : Nat} : hs (spn N P x y) z = true ↔ z < P ∧ ∀ w, w < P → hs (N x &&& N y) w = true → hs (N w) z = true := by
  unfold spn
  rw [hs_andF, hs_blw (by omega)]
  simp
/-- what is in the span of x and y, but x, is not near to x -/
theorem spn_far (h : rightW g P L) {x y z : Nat} (hx : x < P) (hy : y < P) (hn : hs (nrs g L x) y = false) (hz : hs (spn (nrs g L) P x y) z = true) (hne : z ≠ x) : hs (nrs g L x) z = false := by
  refine bool_ff (fun hnear => ?_)
  obtain ⟨hzP, hall⟩ := (spn_iff h.1).mp hz
  rcases (near_iff h hx).mp hnear with e | ⟨l, l1, l2, l3⟩
  · exact hne e
  · -- another line through x
    have h3 := h.2.2.2.2.2.1 x hx
    have hex : ∃ m, m < L ∧ hs (g m) x = true ∧ m ≠ l := by
      obtain ⟨a, b, ab, ha, hb⟩ := two_pop (x := thr g L x) (by omega)
      rw [hs_thr g x _ L h.2.1] at ha hb
      by_cases c : a = l
      · exact ⟨b, hb.1, hb.2, fun z => ab (by rw [c, z])⟩
      · exact ⟨a, ha.1, ha.2, c⟩
    obtain ⟨m, m1, m2, m3⟩ := hex
    obtain ⟨w, w1, w2, w3⟩ := tr_ex h hx hy hn m1 m2
    have hwP : w < P := h.2.2.1 m m1 w w1
    have hwz := hall w hwP w3
    have hzm : hs (g m) z = false := bool_ff (fun c => m3 (rw_one h m1 l1 c m2 l3 l2 hne))
    rcases (near_iff h hwP).mp hwz with e | ⟨j, j1, j2, j3⟩
    · rw [e, w1] at hzm; cases hzm
    · exact w2 (rw_un h m1 hzP hzm j1 l1 j3 j2 w1 l3 l2 m2)
/-- a span is told by any of its points that are not x -/
theorem spn_same (h : rightW g P L) {x y z : Nat} (hx : x < P) (hy : y < P) (hn : hs (nrs g L x) y = false) (hz : hs (spn (nrs g L) P x y) z = true) (hne : z ≠ x) : spn (nrs g L) P x z = spn (nrs g L) P x y := by
  have hfar := spn_far h hx hy hn hz hne
  obtain ⟨hzP, hall⟩ := (spn_iff h.1).mp hz
  have e : (nrs g L x &&& nrs g L z) = (nrs g L x &&& nrs g L y) := by
    refine hs_iff (fun w _ => ?_)
    constructor
    · intro hw
      have hw' := hw
      rw [hs_and, Bool.and_eq_true] at hw'
      obtain ⟨w1, w2⟩ := hw'
      rcases (near_iff h hx).mp w1 with e | ⟨l, l1, l2, l3⟩
      · rw [e] at w2
        rw [near_sym h hzP hx w2] at hfar; cases hfar
      · obtain ⟨u, u1, u2, u3⟩ := tr_ex h hx hy hn l1 l2
        have huP : u < P := h.2.2.1 l l1 u u1
        have huz := near_sym h huP hzP (hall u huP u3)
        have := tr_un h hx hzP hfar l1 l2 l3 u1 w2 huz
        rw [this]; exact u3
    · intro hw
      have hw' := hw
      rw [hs_and, Bool.and_eq_true] at hw'
      have hwP := near_lt h hx hw'.1
      rw [hs_and, hw'.1, near_sym h hwP hzP (hall w hwP hw)]
      rfl
  unfold spn
  rw [e]
theorem spn_self (h : rightW g P L) {x y : Nat} (hy : y < P) : hs (spn (nrs g L) P x y) y = true := (spn_iff h.1).mpr ⟨hy, fun w hw hh => by
  rw [hs_and, Bool.and_eq_true] at hh
  exact near_sym h hy hw hh.2⟩
/-- a line off x has a point that is not near to x -/
theorem far_on (h : rightW g P L) {x l : Nat} (hx : x < P) (hl : l < L) (h1 : hs (g l) x = false) : ∃ z, hs (g l) z = true ∧ z < P ∧ hs (nrs g L x) z = false := by
  obtain ⟨p, q, hne, hp, hq⟩ := two_pop (x := g l) (by have := h.2.2.2.2.2.2 l hl; omega)
  apply Classical.byContradiction
  intro z
  have near : ∀ k, hs (g l) k = true → hs (nrs g L x) k = true := fun k hk => Classical.byContradiction fun c => z ⟨k, hk, h.2.2.1 l hl k hk, bool_ff c⟩
  have on : ∀ k, hs (g l) k = true → ∃ j, j < L ∧ hs (g j) x = true ∧ hs (g j) k = true := fun k hk => by
    rcases (near_iff h hx).mp (near k hk) with e | e
    · rw [e, h1] at hk; cases hk
    · exact e
  obtain ⟨j, j1, j2, j3⟩ := on p hp
  obtain ⟨k, k1, k2, k3⟩ := on q hq
  exact hne (rw_un h hl hx h1 j1 k1 j2 j3 hp k2 k3 hq)
theorem far_ex (h : rightW g P L) {x : Nat} (hx : x < P) : ∃ z, z < P ∧ hs (nrs g L x) z = false := by
  obtain ⟨l, hl⟩ := pop_ex (x := thr g L x) (by have := h.2.2.2.2.2.1 x hx; omega)
  rw [hs_thr g x _ L h.2.1] at hl
  have hex : ∃ p, hs (g l) p = true ∧ p ≠ x := by
    obtain ⟨a, b, ab, ha, hb⟩ := two_pop (x := g l) (by have := h.2.2.2.2.2.2 l hl.1; omega)
    by_cases c : a = x
    · exact ⟨b, hb, fun z => ab (by rw [c, z])⟩
    · exact ⟨a, ha, c⟩
  obtain ⟨p, p1, p2⟩ := hex
  have hpP := h.2.2.1 l hl.1 p p1
  have hex2 : ∃ m, m < L ∧ hs (g m) p = true ∧ m ≠ l := by
    obtain ⟨a, b, ab, ha, hb⟩ := two_pop (x := thr g L p) (by have := h.2.2.2.2.2.1 p hpP; omega)
    rw [hs_thr g p _ L h.2.1] at ha hb
    by_cases c : a = l
    · exact ⟨b, hb.1, hb.2, fun z => ab (by rw [c, z])⟩
    · exact ⟨a, ha.1, ha.2, c⟩
  obtain ⟨m, m1, m2, m3⟩ := hex2
  have hmx : hs (g m) x = false := bool_ff (fun c => m3 (rw_one h m1 hl.1 m2 c p1 hl.2 p2))
  obtain ⟨z, -, z2, z3⟩ := far_on h hx m1 hmx
  exact ⟨z, z2, z3⟩
/-- the points kept -/
def kpt (g : Nat → Int64) (P L x : Nat) : Int64 := blw P &&& (nrs g L x ^^^ (-1))
theorem hs_kpt (hP : P ≤ 45) {x k : Nat} : hs (kpt g P L x) k = true ↔ k < P ∧ hs (nrs g L x) k = false := by
  unfold kpt
  rw [hs_and, Bool.and_eq_true, hs_blw (by omega)]
  by_cases hk : k < 64
  · rw [hs_not _ hk]
    simp
  · have hb : hs (nrs g L x ^^^ (-1)) k = false := hs_big (by omega)
    rw [hb]
    constructor
    · intro z; cases z.2
    · intro z; omega
/-- a span without x -/
def rst (g : Nat → Int64) (P L x y : Nat) : Int64 := spn (nrs g L) P x y &&& (vshl 1 (nI x) ^^^ (-1))
theorem hs_rst (hP : P ≤ 45) {x y k : Nat} (hx : x < P) : hs (rst g P L x y) k = true ↔ hs (spn (nrs g L) P x y) k = true ∧ k ≠ x := by
  unfold rst
  rw [hs_and, Bool.and_eq_true]
  by_cases hk : k < 64
  · rw [hs_not _ hk, hs_one (by omega)]
    simp
  · have hb : hs (spn (nrs g L) P x y) k = false := hs_big (by omega)
    rw [hb]
    constructor
    · intro z; cases z.1
    · intro z; cases z.1
/-- a span's first -/
def fst (g : Nat → Int64) (P L x y : Nat) : Prop := (rst g P L x y &&& blw y) = 0
theorem fst_iff (hP : P ≤ 45) {x y : Nat} (hx : x < P) (hy : y < P) : fst g P L x y ↔ ∀ k, k < y → hs (rst g P L x y) k = false := by
  unfold fst
  rw [zero_iff]
  constructor
  · intro z k hk
    have := z k (by omega)
    rw [hs_and, hs_blw (by omega)] at this
    simpa [hk] using this
  · intro z k _
    rw [hs_and, hs_blw (by omega)]
    by_cases c : k < y
    · rw [z k c]; rfl
    · simp [c]
/-- told before: of a span whose first came before -/
theorem told_iff (h : rightW g P L) {x y : Nat} (hx : x < P) (hy : y < P) (hn : hs (nrs g L x) y = false) : (∃ w, w < y ∧ hs (kpt g P L x) w = true ∧ fst g P L x w ∧ hs (rst g P L x w) y = true) ↔ ¬ fst g P L x y := by
  have hP := h.1
  have hyx : y ≠ x := fun e => by
    rw [e, (near_iff h hx).mpr (Or.inl rfl)] at hn; cases hn
  constructor
  · rintro ⟨w, w1, w2, w3, w4⟩ hf
    obtain ⟨k1, k2⟩ := (hs_kpt hP).mp w2
    obtain ⟨r1, r2⟩ := (hs_rst hP hx).mp w4
    have hwx : w ≠ x := fun e => by
      rw [e, (near_iff h hx).mpr (Or.inl rfl)] at k2; cases k2
    have e := spn_same h hx k1 k2 r1 r2
    have := (fst_iff hP hx hy).mp hf w w1
    rw [show rst g P L x y = rst g P L x w from by unfold rst; rw [e], (hs_rst hP hx).mpr ⟨spn_self h k1, hwx⟩] at this
    cases this
  · intro hf
    rw [fst_iff hP hx hy] at hf
    have hx' : ∃ k, k < y ∧ hs (rst g P L x y) k = true := by
      apply Classical.byContradiction
      intro z
      exact hf (fun k hk => bool_ff (fun z2 => z ⟨k, hk, z2⟩))
    obtain ⟨w, w1, w2, w3⟩ := fb_first hx'
    obtain ⟨r1, r2⟩ := (hs_rst hP hx).mp w2
    have hwP := (spn_in hP r1)
    have e := spn_same h hx hy hn r1 r2
    have hfar := spn_far h hx hy hn r1 r2
    have er : rst g P L x w = rst g P L x y := by unfold rst; rw [e]
    refine ⟨w, w1, (hs_kpt hP).mpr ⟨hwP, hfar⟩, (fst_iff hP hx hwP).mpr (fun k hk => ?_), ?_⟩
    · rw [er]; exact bool_ff (w3 k hk)
    · rw [er, hs_rst hP hx]
      exact ⟨spn_self h hy, hyx⟩
end
