/-! the class's calls -/
def CW (v : AV) (t k tg sz lc : Int32) (nr st th : Nat → Int64) : Prop := (vP v = 0 → t = 0) ∧ (vP v ≠ 0 → t = 1 ∧ k = vK v ∧ tg = vM v ∧ okW (vP v) (vL v) (vG v) sz lc nr st th)
theorem s_isW {x : Int32} {Q : Int32 → Prop} (ht : ∀ j, j < 6 → x = nI j → Q 1) (hf : ¬ num x 6 → Q 0) : w_X6_isWorldNumber x Q := by
  rcases below_cases x 6 (by omega) with ⟨p, hp, rfl⟩ | h | ⟨h0, h⟩
  · exact ⟨fun c => absurd c (nI_pos (by omega)), fun _ => pk_le 6 p (fun c => by omega) (fun _ => ⟨Or.inr rfl, ht p hp rfl⟩)⟩
  · refine ⟨fun _ => ⟨Or.inl rfl, hf ?_⟩, fun c => absurd h c⟩
    rintro ⟨j, hj, rfl⟩
    exact nI_pos (by omega) h
  · refine ⟨fun c => absurd c h0, fun _ => ⟨fun _ => ⟨Or.inl rfl, hf ?_⟩, fun c => absurd h c⟩⟩
    rintro ⟨j, hj, rfl⟩
    have := (nI_leI (by omega) (by omega)).mp h
    omega
theorem s_isR {x : Int32} {Q : Int32 → Prop} (ht : ∀ j, j < 4 → x = nI j → Q 1) (hf : ¬ num x 4 → Q 0) : w_X6_isRowNumber x Q := by
  rcases below_cases x 4 (by omega) with ⟨p, hp, rfl⟩ | h | ⟨h0, h⟩
  · exact ⟨fun c => absurd c (nI_pos (by omega)), fun _ => pk_le 4 p (fun c => by omega) (fun _ => ⟨Or.inr rfl, ht p hp rfl⟩)⟩
  · refine ⟨fun _ => ⟨Or.inl rfl, hf ?_⟩, fun c => absurd h c⟩
    rintro ⟨j, hj, rfl⟩
    exact nI_pos (by omega) h
  · refine ⟨fun c => absurd c h0, fun _ => ⟨fun _ => ⟨Or.inl rfl, hf ?_⟩, fun c => absurd h c⟩⟩
    rintro ⟨j, hj, rfl⟩
    have := (nI_leI (by omega) (by omega)).mp h
    omega
/-- an int that lies between two small numbers -/
theorem btw {x : Int32} {a b : Nat} (hb : b < 2 ^ 31) (h1 : ¬ x < nI a) (h2 : ¬ nI b < x) (ha : a < 2 ^ 31) : ∃ k, a ≤ k ∧ k ≤ b ∧ x = nI k := by
  have h0 : ¬ x < 0 := fun z => h1 (by
    rw [fa_lt] at z ⊢
    rw [nI_toInt ha]
    have e0 : (0 : Int32).toInt = 0 := by decide
    omega)
  obtain ⟨k, hk, rfl⟩ := nI_of h0
  refine ⟨k, ?_, ?_, rfl⟩
  · exact Classical.byContradiction fun z => h1 ((nI_ltI hk ha).mpr (by omega))
  · exact Classical.byContradiction fun z => h2 ((nI_ltI hb hk).mpr (by omega))
theorem s_isT {x : Int32} {Q : Int32 → Prop} (ht : ∀ k, 1 ≤ k → k ≤ 100000 → x = nI k → Q 1) (hf : ¬ numT x → Q 0) : w_X6_isNumberOfTries x Q := by
  refine ⟨fun c => ⟨Or.inl rfl, hf ?_⟩, fun c => ⟨fun d => ⟨Or.inl rfl, hf ?_⟩, fun d => ⟨Or.inr rfl, ?_⟩⟩⟩
  · rintro ⟨k, h1, h2, rfl⟩
    have := (nI_ltI (by omega) (by decide)).mp (show nI k < nI 1 from c)
    omega
  · rintro ⟨k, h1, h2, rfl⟩
    have := (nI_ltI (by decide) (by omega)).mp (show nI 100000 < nI k from d)
    omega
  · obtain ⟨k, h1, h2, e⟩ := btw (a := 1) (b := 100000) (by decide) c d (by decide)
    exact ht k h1 h2 e
theorem s_refused {k : Nat} (hk : k < 6) {fd : Int32} {fs : Nat → Int32} {Q : Int32 → Int32 → (Nat → Int32) → Prop} (h : Q (-3) (nI k) (fnd fs k)) : w_X6_refused (nI k) fd fs Q := by
  refine ⟨in6 hk, in6 hk, ?_⟩
  rw [cl45 (by omega)]
  exact h
theorem s_askedSet {x a : Int64} {Q : Int32 → Int64 → Prop} (h : Q (nI (pop x)) x) : w_X6_askedSet x a Q := s_bitCount h
/-- the focused world of a call -/
def FO (W : AW) (x : Int32) (f : Nat) (wr : Nat → Option Nat) (oW : Nat) (t k tg sz lc : Int32) (nr st th : Nat → Int64) : Prop := AWok W ∧ f < 6 ∧ wr f = some oW ∧ (∀ j, j < 6 → x = nI j → j = f) ∧ CW (W f) t k tg sz lc nr st th
/-- a world that is there -/
def CA (v : AV) (t k tg sz lc : Int32) (nr st th : Nat → Int64) : Prop := 1 ≤ vP v ∧ vP v ≤ 45 ∧ vL v ≤ 45 ∧ gOK (vG v) (vP v) (vL v) ∧ gNE (vG v) (vL v) ∧ t = 1 ∧ k = vK v ∧ tg = vM v ∧ sz = nI (vP v) ∧ lc = nI (vL v) ∧ (∀ l, l < vL v → st l = vG v l) ∧ (∀ p, p < vP v → nr p = nrs (vG v) (vL v) p) ∧ ∀ p, p < vP v → th p = thr (vG v) (vL v) p
section
variable {W : AW} {x : Int32} {f : Nat} {wr : Nat → Option Nat} {oW : Nat} {t k tg sz lc : Int32} {nr st th : Nat → Int64} {fd : Int32} {fs : Nat → Int32}
theorem FO_at (h : FO W x f wr oW t k tg sz lc nr st th) (h0 : vP (W f) ≠ 0) : CA (W f) t k tg sz lc nr st th := by
  obtain ⟨h1, h2, h3, h4, h5⟩ := h
  obtain ⟨c1, c2, c3, c4⟩ := h5.2 h0
  rcases h1 f h2 with z | z
  · exact absurd z h0
  · exact ⟨by omega, z.1, z.2.1, z.2.2.1, z.2.2.2, c1, c2, c3, c4.1, c4.2.1, c4.2.2.1, fun p hp => (c4.2.2.2 p hp).1, fun p hp => (c4.2.2.2 p hp).2⟩
theorem FO_0 (h : FO W x f wr oW t k tg sz lc nr st th) : t = 0 ↔ vP (W f) = 0 := by
  constructor
  · intro e
    exact Classical.byContradiction fun z => by
      have := (h.2.2.2.2.2 z).1
      rw [e] at this
      exact absurd this (by decide)
  · exact h.2.2.2.2.1
theorem FO_g (h : FO W x f wr oW t k tg sz lc nr st th) {j : Nat} (hj : j < 6) (e : x = nI j) : vp_in x 6 ∧ wr x.toNatClampNeg = some oW := by
  have := h.2.2.2.1 j hj e
  subst this
  rw [e]
  refine ⟨in6 hj, ?_⟩
  rw [cl45 (by omega)]; exact h.2.2.1
theorem s_lk (h : FO W x f wr oW t k tg sz lc nr st th) {Qb : QF} {K : Nat → Prop} (s : lk W x fd fs Qb K) {A : Prop} (hA : x = nI f → CA (W f) t k tg sz lc nr st th → K f → A) : w_X6_isWorldNumber x (fun r => ((¬ r = 0 → (vp_in x 6 ∧ wr x.toNatClampNeg = some oW ∧ ((¬ t = 0 → A) ∧ (t = 0 → (w_X6_refused 1 fd fs (fun r u0 u1 => Qb r u0 u1)))))) ∧ (r = 0 → Qb (-1) fd fs))) := by
  refine s_isW (fun j hj e => ⟨fun _ => ?_, fun c => absurd c (by decide)⟩) (fun hn => ⟨fun c => absurd rfl c, fun _ => s.1 hn⟩)
  obtain ⟨g1, g2⟩ := FO_g h hj e
  have ej := h.2.2.2.1 j hj e
  subst ej
  obtain ⟨s1, s2⟩ := s.2 j hj e
  refine ⟨g1, g2, fun c => ?_, fun c => s_refused (k := 1) (by decide) (s1 ((FO_0 h).mp c))⟩
  have h0 : vP (W j) ≠ 0 := fun z => c ((FO_0 h).mpr z)
  exact hA e (FO_at h h0) (s2 h0)
/-- what a call leaves of the worlds -/
def FW (W W' : AW) (f : Nat) (t k tg sz lc : Int32) (nr st th : Nat → Int64) : Prop := CW (W' f) t k tg sz lc nr st th ∧ ∀ i, i ≠ f → W' i = W i
theorem upW_same {W : AW} {k : Nat} {v : AV} : upW W k v k = v := if_pos rfl
theorem upW_ne {W : AW} {k i : Nat} {v : AV} (h : i ≠ k) : upW W k v i = W i := if_neg h
theorem s_drop (h : FO W x f wr oW t k tg sz lc nr st th) {Q : Int32 → Int32 → Int32 → (Nat → Int32) → Prop} (s : sp_drop W x fd fs (fun r fd fs W' => ∀ t', FW W W' f t' k tg sz lc nr st th → Q r fd t' fs)) : w_X6_drop x fd t fs wr oW Q := by
  have hw : FW W W f t k tg sz lc nr st th := ⟨h.2.2.2.2, fun _ _ => rfl⟩
  refine s_isW (fun j hj e => ⟨fun _ => ?_, fun c => absurd c (by decide)⟩) (fun hn => ⟨fun c => absurd rfl c, fun _ => s.1 hn _ hw⟩)
  obtain ⟨g1, g2⟩ := FO_g h hj e
  have ej := h.2.2.2.1 j hj e
  subst ej
  obtain ⟨s1, s2⟩ := s.2 j hj e
  refine ⟨g1, g2, fun c => ⟨g1, g2, ?_⟩, fun c => s_refused (k := 1) (by decide) (s1 ((FO_0 h).mp c) _ hw)⟩
  exact s2 (fun z => c ((FO_0 h).mpr z)) 0 ⟨by rw [upW_same]; exact ⟨fun _ => rfl, fun z => absurd rfl z⟩, fun i hi => upW_ne hi⟩
theorem s_told (h : FO W x f wr oW t k tg sz lc nr st th) {wh : Int32} {Q : QF} (s : sp_told W x wh fd fs Q) : w_X6_told x wh fd t k sz lc st th fs wr oW Q := by
  have bad : ¬ num wh 5 → Q (-1) fd fs := s.1
  by_cases hw : num wh 5
  · obtain ⟨w, hw, rfl⟩ := hw
    have s2 := s.2 w hw rfl
    refine s_isW (fun j hj e => ⟨fun c => absurd c (by decide), fun _ => ⟨fun c => absurd c (nI_pos (by omega)), fun _ => pk_le w 4 (fun _ => ?_) (fun c => by omega)⟩⟩) (fun hn => ⟨fun _ => s2.1 hn, fun c => absurd rfl c⟩)
    obtain ⟨g1, g2⟩ := FO_g h hj e
    have ej := h.2.2.2.1 j hj e
    subst ej
    obtain ⟨s3, s4⟩ := s2.2 j hj e
    refine ⟨g1, g2, fun c => ?_, fun c => s_refused (k := 1) (by decide) (s3 ((FO_0 h).mp c))⟩
    have h0 : vP (W j) ≠ 0 := fun z => c ((FO_0 h).mpr z)
    obtain ⟨c1, c2, c3, c4, c5, c6, c7, c8, c9, c10, c11, c12, c13⟩ := FO_at h h0
    have q := s4 h0
    unfold tv at q
    subst c7; subst c9; subst c10
    have hwi := nI_toInt (n := w) (by omega)
    refine ⟨fun c => ?_, fun c => ?_, fun c => ?_, fun c => ?_, fun c => ?_⟩
    · have hw4 : w = 4 := by omega
      subst hw4
      refine s_orderOfPoints c2 c1 c3 ?_
      rw [ord_cong (f' := fun i => pop (thr (vG (W j)) (vL (W j)) i)) (fun i hi => by rw [c13 i hi]) (Or.inl c1)]
      exact q
    · have : w = 0 := (nI_eq (by omega) (by decide)).mp c
      subst this; exact q
    · have : w = 1 := (nI_eq (b := 1) (by omega) (by decide)).mp c
      subst this; exact q
    · have : w = 2 := (nI_eq (b := 2) (by omega) (by decide)).mp c
      subst this; exact q
    · have : w = 3 := (nI_eq (b := 3) (by omega) (by decide)).mp c
      subst this
      refine s_orderOfLines c3 ?_
      rw [ord_cong (f' := fun i => pop (vG (W j) i)) (fun i hi => by rw [c11 i hi]) (by omega)]
      exact q
  · refine s_isW (fun j hj e => ⟨fun c => absurd c (by decide), fun _ => ⟨fun _ => bad hw, fun c => ⟨fun d => absurd ?_ hw, fun _ => bad hw⟩⟩⟩) (fun hn => ⟨fun _ => bad hw, fun c => absurd rfl c⟩)
    obtain ⟨w, hw4, e⟩ := nI_of2 (M := 4) (n := 4) (by decide) c d
    exact ⟨w, by omega, e⟩
theorem s_mark (h : FO W x f wr oW t k tg sz lc nr st th) {kd : Int32} {Q : QF} (s : sp_mark W x kd fd fs Q) : w_X6_mark x kd fd t k tg th fs wr oW Q := by
  have bad := s.1
  by_cases hw : ∃ w, 1 ≤ w ∧ w ≤ 3 ∧ kd = nI w
  · obtain ⟨w, hw1, hw3, rfl⟩ := hw
    have s2 := s.2 w hw1 hw3 rfl
    refine s_isW (fun j hj e => ⟨fun c => absurd c (by decide), fun _ => pk_lt w 1 (fun c => by omega) (fun _ => pk_le w 3 (fun _ => ?_) (fun c => by omega))⟩) (fun hn => ⟨fun _ => s2.1 hn, fun c => absurd rfl c⟩)
    obtain ⟨g1, g2⟩ := FO_g h hj e
    have ej := h.2.2.2.1 j hj e
    subst ej
    obtain ⟨s3, s4⟩ := s2.2 j hj e
    refine ⟨g1, g2, fun c => ?_, fun c => s_refused (k := 1) (by decide) (s3 ((FO_0 h).mp c))⟩
    have h0 : vP (W j) ≠ 0 := fun z => c ((FO_0 h).mpr z)
    obtain ⟨c1, c2, c3, c4, c5, c6, c7, c8, c9, c10, c11, c12, c13⟩ := FO_at h h0
    obtain ⟨q1, q2⟩ := s4 h0
    subst c7; subst c8
    refine ⟨fun d => ?_, fun d => s_refused (k := 3) (by decide) (q2 d)⟩
    have q1 := q1 d
    refine ⟨fun d3 => ?_, fun d3 => ⟨in45 (i := 0) (by omega), ?_⟩⟩
    · rw [if_neg (fun z => d3 (by rw [z]; rfl))] at q1
      exact q1
    · have : w = 3 := (nI_eq (b := 3) (by omega) (by decide)).mp d3
      rw [if_pos this] at q1
      have z0 : (0 : Int32).toNatClampNeg = 0 := by decide
      rw [z0, c13 0 (by omega)]
      exact s_bitCount q1
  · refine s_isW (fun j hj e => ⟨fun c => absurd c (by decide), fun _ => ⟨fun _ => bad hw, fun c => ⟨fun d => absurd ?_ hw, fun _ => bad hw⟩⟩⟩) (fun hn => ⟨fun _ => bad hw, fun c => absurd rfl c⟩)
    exact btw (a := 1) (b := 3) (by decide) c (by rw [fa_le] at d; show ¬ (3 : Int32) < kd; rw [fa_lt]; omega) (by decide)
theorem s_points (h : FO W x f wr oW t k tg sz lc nr st th) {l : Int32} {ask : Int64} {Q : QA} (s : sp_points W x l fd ask fs Q) : w_X6_points x l fd ask t lc st fs wr oW Q := by
  refine s_lk h s (fun e ca q => ?_)
  obtain ⟨c1, c2, c3, c4, c5, c6, c7, c8, c9, c10, c11, c12, c13⟩ := ca
  subst c10
  by_cases hl : num l (vL (W f))
  · obtain ⟨i, hi, rfl⟩ := hl
    refine ⟨fun c => absurd c (nI_pos (by omega)), fun _ => pk_lt i (vL (W f)) (fun _ => ⟨in45 (by omega), ?_⟩) (fun c => by omega)⟩
    rw [cl45 (by omega), c11 i hi]
    exact s_askedSet (q.1 i hi rfl)
  · have q2 := q.2 hl
    refine ⟨fun _ => s_refused (k := 2) (by decide) q2, fun c => ⟨fun d => absurd ?_ hl, fun _ => s_refused (k := 2) (by decide) q2⟩⟩
    obtain ⟨i, hi, rfl⟩ := nI_of c
    exact ⟨i, (nI_ltI hi (by omega)).mp d, rfl⟩
theorem s_lines (h : FO W x f wr oW t k tg sz lc nr st th) {p : Int32} {ask : Int64} {Q : QA} (s : sp_lines W x p fd ask fs Q) : w_X6_lines x p fd ask t sz th fs wr oW Q := by
  refine s_lk h s (fun e ca q => ?_)
  obtain ⟨c1, c2, c3, c4, c5, c6, c7, c8, c9, c10, c11, c12, c13⟩ := ca
  subst c9
  refine s_hasPoint c2 (fun i hi e => ⟨fun _ => ?_, fun c => absurd c (by decide)⟩) (fun hn => ⟨fun c => absurd rfl c, fun _ => s_refused (k := 2) (by decide) (q.2 hn)⟩)
  subst e
  refine ⟨in45 (by omega), ?_⟩
  rw [cl45 (by omega), c13 i hi]
  exact s_askedSet (q.1 i hi rfl)
theorem s_fault (h : FO W x f wr oW t k tg sz lc nr st th) {ask : Int64} {Q : QA} (s : sp_fault W x fd ask fs Q) : w_X6_fault x fd ask t sz lc st th fs wr oW Q := by
  refine s_isW (fun j hj e => ⟨fun _ => ?_, fun c => absurd c (by decide)⟩) (fun hn => ⟨fun c => absurd rfl c, fun _ => s.1 hn⟩)
  obtain ⟨g1, g2⟩ := FO_g h hj e
  have ej := h.2.2.2.1 j hj e
  subst ej
  obtain ⟨s1, s2⟩ := s.2 j hj e
  refine ⟨g1, g2, fun c => ⟨g1, g2, ?_⟩, fun c => s_refused (k := 1) (by decide) (s1 ((FO_0 h).mp c))⟩
  have h0 : vP (W j) ≠ 0 := fun z => c ((FO_0 h).mpr z)
  obtain ⟨c1, c2, c3, c4, c5, c6, c7, c8, c9, c10, c11, c12, c13⟩ := FO_at h h0
  have q : Q (nI (fl (W j) / 10000)) fd (if fl (W j) = 0 then ask else lN (fl (W j) % 10000)) fs := s2 h0
  subst c9; subst c10
  -- the first fault reads lines and what goes through points
  have g' : ∀ l, l < vL (W j) → st l = vG (W j) l := c11
  have hgs : gOK st (vP (W j)) (vL (W j)) := fun l hl kk hk => c4 l hl kk (by rw [← c11 l hl]; exact hk)
  have hths : ∀ p, p < vP (W j) → th p = thr st (vL (W j)) p := fun p hp => by rw [c13 p hp]; exact thr_cong p (fun l hl => (c11 l hl).symm)
  refine s_firstOf c2 c3 hgs hths ?_
  have ef : flt st (vP (W j)) (vL (W j)) = fl (W j) := flt_cong c2 c3 c11
  have fb : fl (W j) < 40000 := flt_lt c2 c3
  rw [ef]
  by_cases c0 : fl (W j) = 0
  · rw [c0] at q ⊢
    rw [if_pos rfl] at q
    exact ⟨fun d => absurd rfl d, fun _ => q⟩
  · rw [if_neg c0] at q
    refine ⟨fun _ => ?_, fun d => absurd d (nI_ne0 (by omega) (by omega))⟩
    show Q (nI (fl (W j)) / 10000) fd (vrem (nI (fl (W j))) 10000).toInt64 fs
    rw [show (10000 : Int32) = nI 10000 from rfl, pk_div (by omega) (by decide) (by decide), vrem_nI (by omega) (by decide) (by decide), nI_l (by omega)]
    exact q
theorem s_mean (h : FO W x f wr oW t k tg sz lc nr st th) {Q : QF} (s : sp_mean W x fd fs Q) : w_X6_mean x fd t lc st fs wr oW Q := by
  refine s_lk h s (fun e ca q => ?_)
  obtain ⟨c1, c2, c3, c4, c5, c6, c7, c8, c9, c10, c11, c12, c13⟩ := ca
  subst c10
  refine ⟨fun c => ?_, fun c => s_refused (k := 4) (by decide) (q.1 ((nI_eq (by omega) (by decide)).mp c))⟩
  have h0 : vL (W f) ≠ 0 := fun z => c (by rw [z]; rfl)
  have bnd : ∀ i, fb_sm (fun l => pop (vG (W f) l)) i ≤ i * 64 := fun i => by
    induction i with
    | zero => exact Nat.le_refl _
    | succ i ih => rw [fb_sm_succ]; have := pop_le (vG (W f) i); omega
  refine lpf (fun n i s => w_X6_mean_47 fd t (nI (vL (W f))) st fs wr oW Q n (nI s) (nI i)) (fb_sm (fun l => pop (vG (W f) l))) (vL (W f)) 0 (Nat.zero_le _) (fun n => ?_) (fun n i _ hi ih => ?_)
  · have := bnd (vL (W f))
    refine pk_le (vL (W f)) (vL (W f)) (fun _ => ⟨c, ?_⟩) (fun d => by omega)
    rw [pk_div (by omega) (by omega) (by omega)]
    exact q.2 h0
  · refine pk_le (vL (W f)) i (fun d => by omega) (fun _ => ⟨in45 (by omega), ?_⟩)
    rw [cl45 (by omega), c11 i hi]
    refine s_bitCount ?_
    rw [nI_add, nI_1]
    exact ih
theorem s_perp (h : FO W x f wr oW t k tg sz lc nr st th) {se ask : Int64} {Q : QA} (s : sp_perp W x se fd ask fs Q) : w_X6_perp x se fd ask t sz nr fs wr oW Q := by
  refine s_lk h s (fun e ca q => ?_)
  obtain ⟨c1, c2, c3, c4, c5, c6, c7, c8, c9, c10, c11, c12, c13⟩ := ca
  subst c9
  refine s_hasAll c2 (fun d => ⟨fun _ => s_nearToAll c2 ?_, fun c => absurd c (by decide)⟩) (fun d => ⟨fun c => absurd rfl c, fun _ => q.2 d⟩)
  rw [andF_cong (g' := nrs (vG (W f)) (vL (W f))) _ _ c12]
  exact s_askedSet (q.1 d)
theorem s_span (h : FO W x f wr oW t k tg sz lc nr st th) {p r : Int32} {ask : Int64} {Q : QA} (s : sp_span W x p r fd ask fs Q) : w_X6_span x p r fd ask t sz nr fs wr oW Q := by
  refine s_lk h s (fun e ca q => ?_)
  obtain ⟨c1, c2, c3, c4, c5, c6, c7, c8, c9, c10, c11, c12, c13⟩ := ca
  subst c9
  refine s_hasPoint c2 (fun a ha ea => ⟨fun c => absurd c (by decide), fun _ => ?_⟩) (fun hn => ⟨fun _ => s_refused (k := 2) (by decide) (q.1 (fun z => hn z.1)), fun c => absurd rfl c⟩)
  refine s_hasPoint c2 (fun b hb eb => ⟨fun _ => ?_, fun c => absurd c (by decide)⟩) (fun hn => ⟨fun c => absurd rfl c, fun _ => s_refused (k := 2) (by decide) (q.1 (fun z => hn z.2))⟩)
  have q1 := q.2 a b ha hb ea eb
  subst ea; subst eb
  refine s_areNear c2 ha hb (fun z => ⟨fun c => absurd c (by decide), fun _ => q1.1 ?_⟩) (fun z => ⟨fun _ => s_spanSet c2 ha hb ?_, fun c => absurd rfl c⟩)
  · rw [← c12 a ha]; exact z
  · rw [spn_cong c12 ha hb]
    exact s_askedSet (q1.2 (by rw [← c12 a ha]; exact z))
theorem s_regular (h : FO W x f wr oW t k tg sz lc nr st th) {p : Int32} {Q : QF} (s : sp_regular W x p fd fs Q) : w_X6_regular x p fd t sz lc nr th fs wr oW Q := by
  refine s_lk h s (fun e ca q => ?_)
  obtain ⟨c1, c2, c3, c4, c5, c6, c7, c8, c9, c10, c11, c12, c13⟩ := ca
  subst c9; subst c10
  refine s_hasPoint c2 (fun a ha ea => ⟨fun _ => ?_, fun c => absurd c (by decide)⟩) (fun hn => ⟨fun c => absurd rfl c, fun _ => s_refused (k := 2) (by decide) (q.1 hn)⟩)
  have q1 := q.2 a ha ea
  subst ea
  have eo : ord (fun i => pop (th i)) (vP (W f)) (vL (W f)) = ordP (W f) := ord_cong (fun i hi => by rw [c13 i hi]) (Or.inl c1)
  have er : reg nr (vP (W f)) a (ordP (W f) + 1) ↔ rgv (W f) a := by
    unfold rgv reg
    rw [c12 a ha]
    constructor
    · intro z y hy; rw [← spn_cong c12 ha hy]; exact z y hy
    · intro z y hy; rw [spn_cong c12 ha hy]; exact z y hy
  refine s_orderOfPoints c2 c1 c3 ?_
  rw [eo]
  refine ⟨fun c => ?_, fun c => q1.1 c⟩
  refine s_isRegular c2 c3 ha (fun z => ⟨fun d => absurd d (by decide), fun _ => (q1.2 c).1 ?_⟩) (fun z => ⟨fun _ => (q1.2 c).2 ?_, fun d => absurd rfl d⟩)
  · rw [eo] at z; exact er.mp z
  · rw [eo] at z; exact fun zz => z (er.mpr zz)
theorem s_centres (h : FO W x f wr oW t k tg sz lc nr st th) {p r u : Int32} {Q : QF} (s : sp_centres W x p r u fd fs Q) : w_X6_centres x p r u fd t sz nr fs wr oW Q := by
  refine s_lk h s (fun e ca q => ?_)
  obtain ⟨c1, c2, c3, c4, c5, c6, c7, c8, c9, c10, c11, c12, c13⟩ := ca
  subst c9
  refine s_hasPoint c2 (fun a ha ea => ⟨fun c => absurd c (by decide), fun _ => ?_⟩) (fun hn => ⟨fun _ => s_refused (k := 2) (by decide) (q.1 (fun z => hn z.1)), fun c => absurd rfl c⟩)
  refine s_hasPoint c2 (fun b hb eb => ⟨fun c => absurd c (by decide), fun _ => ?_⟩) (fun hn => ⟨fun _ => s_refused (k := 2) (by decide) (q.1 (fun z => hn z.2.1)), fun c => absurd rfl c⟩)
  refine s_hasPoint c2 (fun d hd ed => ⟨fun _ => ?_, fun c => absurd c (by decide)⟩) (fun hn => ⟨fun c => absurd rfl c, fun _ => s_refused (k := 2) (by decide) (q.1 (fun z => hn z.2.2))⟩)
  have q1 := q.2 a b d ha hb hd ea eb ed
  subst ea; subst eb; subst ed
  refine ⟨in45 (by omega), in45 (by omega), in45 (by omega), ?_⟩
  rw [cl45 (i := a) (by omega), cl45 (i := b) (by omega), cl45 (i := d) (by omega), c12 a ha, c12 b hb, c12 d hd]
  exact s_bitCount q1
theorem s_meets (h : FO W x f wr oW t k tg sz lc nr st th) {se : Int64} {m : Int32} {Q : QF} (s : sp_meets W x se m fd fs Q) : w_X6_meets x se m fd t sz lc st fs wr oW Q := by
  refine s_lk h s (fun e ca q => ?_)
  obtain ⟨c1, c2, c3, c4, c5, c6, c7, c8, c9, c10, c11, c12, c13⟩ := ca
  subst c9; subst c10
  refine s_hasAll c2 (fun d => ⟨fun _ => ?_, fun c => absurd c (by decide)⟩) (fun d => ⟨fun c => absurd rfl c, fun _ => q.1 d⟩)
  obtain ⟨q1, q2⟩ := q.2 d
  refine ⟨fun c => ?_, fun c => s_refused (k := 4) (by decide) (q1 ((nI_eq (by omega) (by decide)).mp c))⟩
  have q2 := q2 (fun z => c (by rw [z]; rfl))
  have mc : ∀ n, n ≤ vL (W f) → minF (fun i => pop (st i &&& se)) 45 n = minF (fun i => pop (vG (W f) i &&& se)) 45 n := fun n => by
    induction n with
    | zero => intro _; rfl
    | succ n ih => intro hn; rw [minF, minF, ih (by omega), c11 n (by omega)]
  have xc : ∀ n, n ≤ vL (W f) → maxF (fun i => pop (st i &&& se)) 0 n = maxF (fun i => pop (vG (W f) i &&& se)) 0 n := fun n => by
    induction n with
    | zero => intro _; rfl
    | succ n ih => intro hn; rw [maxF, maxF, ih (by omega), c11 n (by omega)]
  refine ⟨fun z => s_leastOnLine c3 ?_, fun z => s_mostOnLine c3 ?_⟩
  · rw [if_pos z] at q2
    rw [mc _ (Nat.le_refl _)]; exact q2
  · rw [if_neg z] at q2
    rw [xc _ (Nat.le_refl _)]; exact q2
theorem rch_cong {N N' : Nat → Int64} {P x : Nat} (h : ∀ p, p < P → N p = N' p) : ∀ n, rch N P x n = rch N' P x n
  | 0 => rfl
  | n + 1 => by
    rw [rch, rch, rch_cong h n]
    have key : ∀ m, m ≤ P → ∀ a b, orA N a b m = orA N' a b m := fun m => by
      induction m with
      | zero => intro _ a b; rfl
      | succ m ih => intro hm a b; rw [orA, orA, ih (by omega), h m (by omega)]
    exact key P (Nat.le_refl _) _ _
theorem s_far (h : FO W x f wr oW t k tg sz lc nr st th) {p r : Int32} {Q : QF} (s : sp_far W x p r fd fs Q) : w_X6_far x p r fd t sz nr fs wr oW Q := by
  refine s_lk h s (fun e ca q => ?_)
  obtain ⟨c1, c2, c3, c4, c5, c6, c7, c8, c9, c10, c11, c12, c13⟩ := ca
  subst c9
  refine s_hasPoint c2 (fun a ha ea => ⟨fun c => absurd c (by decide), fun _ => ?_⟩) (fun hn => ⟨fun _ => s_refused (k := 2) (by decide) (q.1 (fun z => hn z.1)), fun c => absurd rfl c⟩)
  refine s_hasPoint c2 (fun b hb eb => ⟨fun _ => ?_, fun c => absurd c (by decide)⟩) (fun hn => ⟨fun c => absurd rfl c, fun _ => s_refused (k := 2) (by decide) (q.1 (fun z => hn z.2))⟩)
  have q1 := q.2 a b ha hb ea eb
  subst ea; subst eb
  refine s_stepsBetween c2 hb (fun n hn z1 z2 => q1.1 n hn ?_ ?_) (fun z => q1.2 ?_)
  · rw [← rch_cong c12]; exact z1
  · intro i hi; rw [← rch_cong c12]; exact z2 i hi
  · intro n hn; rw [← rch_cong c12]; exact z n hn
end
