/-! the class's calls that change worlds -/
theorem CW_of {v : AV} {k tg sz lc : Int32} {nr st th : Nat → Int64} (h0 : vP v ≠ 0) (hk : k = vK v) (ht : tg = vM v) (ok : okW (vP v) (vL v) (vG v) sz lc nr st th) : CW v 1 k tg sz lc nr st th := ⟨fun z => absurd z h0, fun _ => ⟨rfl, hk, ht, ok⟩⟩
section
variable {W : AW} {x : Int32} {f : Nat} {wr : Nat → Option Nat} {oW : Nat} {t k tg sz lc : Int32} {nr st th : Nat → Int64} {fd : Int32} {fs : Nat → Int32}
theorem s_world (h : FO W x f wr oW t k tg sz lc nr st th) {p : Int32} {Q : Int32 → Int32 → Int32 → Int32 → Int32 → Int32 → (Nat → Int64) → (Nat → Int64) → Prop} (s : sp_world W x p (fun r W' => ∀ t k tg sz lc nr th, FW W W' f t k tg sz lc nr st th → Q r t k tg sz lc nr th)) : w_X6_world x p t k tg sz lc nr th wr oW Q := by
  have hw : FW W W f t k tg sz lc nr st th := ⟨h.2.2.2.2, fun _ _ => rfl⟩
  refine s_isW (fun j hj e => ⟨fun c => absurd c (by decide), fun _ => ⟨fun c => s.1 (fun z => ?_) _ _ _ _ _ _ _ hw, fun c => ⟨fun d => ?_, fun d => s.1 (fun z => ?_) _ _ _ _ _ _ _ hw⟩⟩⟩) (fun hn => ⟨fun _ => s.1 (fun z => hn z.1) _ _ _ _ _ _ _ hw, fun c => absurd rfl c⟩)
  · obtain ⟨P, h1, h2, rfl⟩ := z.2
    have := (nI_ltI (by omega) (by decide)).mp (show nI P < nI 2 from c)
    omega
  · obtain ⟨g1, g2⟩ := FO_g h hj e
    have ej := h.2.2.2.1 j hj e
    subst ej
    obtain ⟨P, h1, h2, rfl⟩ := btw (a := 2) (b := 45) (by decide) c (by rw [fa_le] at d; show ¬ (45 : Int32) < p; rw [fa_lt]; omega) (by decide)
    refine ⟨g1, g2, s_begin (s.2 j P hj e h1 h2 rfl _ _ _ _ _ _ _ ⟨?_, fun i hi => upW_ne hi⟩)⟩
    rw [upW_same]
    exact CW_of (by show P ≠ 0; omega) rfl rfl (okW_begin (by omega) _ _ _ _)
  · obtain ⟨P, h1, h2, rfl⟩ := z.2
    exact d ((nI_leI (by omega) (by decide)).mpr h2)
theorem s_grid (h : FO W x f wr oW t k tg sz lc nr st th) {xa xb : Int32} {Q : Int32 → Int32 → Int32 → Int32 → Int32 → Int32 → (Nat → Int64) → (Nat → Int64) → (Nat → Int64) → Prop} (s : sp_grid W x xa xb (fun r W' => ∀ t k tg sz lc nr st th, FW W W' f t k tg sz lc nr st th → Q r t k tg sz lc nr st th)) : w_X6_grid x xa xb t k tg sz lc nr st th wr oW Q := by
  have hw : FW W W f t k tg sz lc nr st th := ⟨h.2.2.2.2, fun _ _ => rfl⟩
  have no : ¬ (num x 6 ∧ (∃ a, 2 ≤ a ∧ a ≤ 6 ∧ xa = nI a) ∧ ∃ b, 2 ≤ b ∧ b ≤ 6 ∧ xb = nI b) → w_X6_grid_29 t k tg sz lc nr st th wr oW Q := fun z => s.1 z _ _ _ _ _ _ _ _ hw
  have lo : ∀ y : Int32, y < 2 → ¬ ∃ a, 2 ≤ a ∧ a ≤ 6 ∧ y = nI a := fun y c => by
    rintro ⟨a, h1, h2, rfl⟩
    have := (nI_ltI (by omega) (by decide)).mp (show nI a < nI 2 from c)
    omega
  refine s_isW (fun j hj e => ⟨fun c => absurd c (by decide), fun _ => ⟨fun c => no (fun z => lo _ c z.2.1), fun c => ⟨fun d => no (fun z => ?_), fun d => ⟨fun c2 => no (fun z => lo _ c2 z.2.2), fun c2 => ⟨fun d2 => ?_, fun d2 => no (fun z => ?_)⟩⟩⟩⟩⟩) (fun hn => ⟨fun _ => no (fun z => hn z.1), fun c => absurd rfl c⟩)
  · obtain ⟨a, h1, h2, rfl⟩ := z.2.1
    have := (nI_ltI (by decide) (by omega)).mp (show nI 6 < nI a from d)
    omega
  · obtain ⟨g1, g2⟩ := FO_g h hj e
    have ej := h.2.2.2.1 j hj e
    subst ej
    obtain ⟨a, a1, a2, rfl⟩ := btw (a := 2) (b := 6) (by decide) c d (by decide)
    obtain ⟨b, b1, b2, rfl⟩ := btw (a := 2) (b := 6) (by decide) c2 (by rw [fa_le] at d2; show ¬ (6 : Int32) < xb; rw [fa_lt]; omega) (by decide)
    refine ⟨g1, g2, s_makeGrid ⟨a1, a2⟩ ⟨b1, b2⟩ (fun nr st th ok => ⟨g1, g2, s.2 j a b hj e a1 a2 rfl b1 b2 rfl _ _ _ _ _ _ _ _ ⟨?_, fun i hi => upW_ne hi⟩⟩)⟩
    rw [upW_same]
    have : a * b ≠ 0 := Nat.mul_ne_zero (by omega) (by omega)
    exact CW_of this rfl rfl ok
  · obtain ⟨b, h1, h2, rfl⟩ := z.2.2
    exact d2 ((nI_leI (by omega) (by decide)).mpr h2)
theorem s_form (h : FO W x f wr oW t k tg sz lc nr st th) {xq : Int32} {Q : Int32 → Int32 → Int32 → Int32 → Int32 → Int32 → (Nat → Int64) → (Nat → Int64) → (Nat → Int64) → Prop} (s : sp_form W x xq (fun r W' => ∀ t k tg sz lc nr st th, FW W W' f t k tg sz lc nr st th → Q r t k tg sz lc nr st th)) : w_X6_form x xq t k tg sz lc nr st th wr oW Q := by
  have hw : FW W W f t k tg sz lc nr st th := ⟨h.2.2.2.2, fun _ _ => rfl⟩
  have no : ¬ (num x 6 ∧ ∃ q', isQ q' ∧ xq = nI q') → w_X6_form_17 t k tg sz lc nr st th wr oW Q := fun z => s.1 z _ _ _ _ _ _ _ _ hw
  refine s_isW (fun j hj e => ⟨fun c => absurd c (by decide), fun _ => ⟨fun c => no (fun z => ?_), fun c => ⟨fun d => ?_, fun d => no (fun z => ?_)⟩⟩⟩) (fun hn => ⟨fun _ => no (fun z => hn z.1), fun c => absurd rfl c⟩)
  · obtain ⟨q, hq, rfl⟩ := z.2
    have := isQ_le hq
    have := (nI_ltI (by omega) (by decide)).mp (show nI q < nI 2 from c)
    omega
  · obtain ⟨g1, g2⟩ := FO_g h hj e
    have ej := h.2.2.2.1 j hj e
    subst ej
    obtain ⟨q, q1, q2, rfl⟩ := btw (a := 2) (b := 3) (by decide) c (by rw [fa_le] at d; show ¬ (3 : Int32) < xq; rw [fa_lt]; omega) (by decide)
    have hq : isQ q := by unfold isQ; omega
    refine ⟨g1, g2, s_makeForm hq (fun nr st th ok => ⟨g1, g2, s.2 j q hj hq e rfl _ _ _ _ _ _ _ _ ⟨?_, fun i hi => upW_ne hi⟩⟩)⟩
    rw [upW_same]
    have := Pq_le hq
    exact CW_of (by show Pq q ≠ 0; omega) rfl rfl ok
  · obtain ⟨q, hq, rfl⟩ := z.2
    have := isQ_le hq
    exact d ((nI_leI (b := 3) (by omega) (by decide)).mpr (by omega))
/-- rows, as the class holds them -/
def RS (R : AR) (rs : Nat → Int32) : Prop := ARok R ∧ ∀ j, j < 4 → rs j = nI (rN (R j)) - 1
def RC (v : RV) (g : Nat → Int32) : Prop := ∀ n, rN v = n + 1 → ∀ i, i < n → g i = rV v i
/-- the focused row of a call -/
def RO (R : AR) (x : Int32) (f : Nat) (rp : Nat → Option Nat) (oP : Nat) (rs g : Nat → Int32) : Prop := RS R rs ∧ f < 4 ∧ rp f = some oP ∧ (∀ j, j < 4 → x = nI j → j = f) ∧ RC (R f) g
theorem RS_0 {R : AR} {rs : Nat → Int32} (h : RS R rs) {j : Nat} (hj : j < 4) : (0 ≤ rs j ↔ rN (R j) ≠ 0) ∧ (rs j < 0 ↔ rN (R j) = 0) ∧ ∀ n, rN (R j) = n + 1 → rs j = nI n := by
  have hb := h.1 j hj
  have e := h.2 j hj
  have h3 : ∀ n, rN (R j) = n + 1 → rs j = nI n := fun n hn => by rw [e, hn, nI_pred]
  have h2 : rs j < 0 ↔ rN (R j) = 0 := by
    by_cases c : rN (R j) = 0
    · rw [e, c]
      exact ⟨fun _ => rfl, fun _ => by decide⟩
    · obtain ⟨n, hn⟩ : ∃ n, rN (R j) = n + 1 := ⟨rN (R j) - 1, by omega⟩
      rw [h3 n hn]
      exact ⟨fun d => absurd d (nI_pos (by omega)), fun d => absurd d c⟩
  exact ⟨by rw [pl_iff, h2], h2, h3⟩
theorem RO_g {R : AR} {x : Int32} {f : Nat} {rp : Nat → Option Nat} {oP : Nat} {rs g : Nat → Int32} (h : RO R x f rp oP rs g) {j : Nat} (hj : j < 4) (e : x = nI j) : vp_in x 4 ∧ rp x.toNatClampNeg = some oP := by
  have := h.2.2.2.1 j hj e
  subst this
  rw [e]
  refine ⟨in4 hj, ?_⟩
  rw [cl45 (by omega)]; exact h.2.2.1
theorem s_line (h : FO W x f wr oW t k tg sz lc nr st th) {R : AR} {r : Int32} {fr : Nat} {rp : Nat → Option Nat} {oP : Nat} {rs g : Nat → Int32} (hr : RO R r fr rp oP rs g) {Q : Int32 → Int32 → Int32 → (Nat → Int64) → (Nat → Int64) → (Nat → Int64) → (Nat → Int32) → Prop} (s : sp_line W R x r fd fs (fun v fd fs W' => ∀ lc nr st th, FW W W' f t k tg sz lc nr st th → Q v fd lc nr st th fs)) : w_X6_line x r fd g t k sz lc nr st th fs rp rs wr oW oP Q := by
  have hw : FW W W f t k tg sz lc nr st th := ⟨h.2.2.2.2, fun _ _ => rfl⟩
  refine s_isW (fun j hj e => ⟨fun c => absurd c (by decide), fun _ => ?_⟩) (fun hn => ⟨fun _ => s.1 (fun z => hn z.1) _ _ _ _ hw, fun c => absurd rfl c⟩)
  refine s_isR (fun a ha ea => ⟨fun _ => ?_, fun c => absurd c (by decide)⟩) (fun hn => ⟨fun c => absurd rfl c, fun _ => s.1 (fun z => hn z.2) _ _ _ _ hw⟩)
  obtain ⟨g1, g2⟩ := FO_g h hj e
  have ej := h.2.2.2.1 j hj e
  subst ej
  obtain ⟨r1, r2⟩ := RO_g hr ha ea
  have er := hr.2.2.2.1 a ha ea
  subst er
  obtain ⟨s1, s2⟩ := s.2 j a hj ha e ea
  subst ea
  have hb := hr.1.1 a ha
  obtain ⟨z1, z2, z3⟩ := RS_0 hr.1 ha
  have rest : ¬ (vP (W j) ≠ 0 ∧ vL (W j) = 45) → w_X6_line_42 (nI a) fd g t k sz lc nr st th fs rp rs wr oW oP Q := by
    intro hnf
    obtain ⟨s3, s4⟩ := s2 hnf
    refine ⟨fun c => s_refused (k := 1) (by decide) (s3 (Or.inl ((FO_0 h).mp c)) _ _ _ _ hw), fun c => ⟨in4 ha, ?_⟩⟩
    rw [cl45 (by omega), z1]
    have h0 : vP (W j) ≠ 0 := fun z => c ((FO_0 h).mpr z)
    obtain ⟨c1, c2, c3, c4, c5, c6, c7, c8, c9, c10, c11, c12, c13⟩ := FO_at h h0
    refine ⟨fun d => ?_, fun d => s_refused (k := 1) (by decide) (s3 (Or.inr (Classical.not_not.mp d)) _ _ _ _ hw)⟩
    obtain ⟨n, hn⟩ : ∃ n, rN (R a) = n + 1 := ⟨rN (R a) - 1, by omega⟩
    obtain ⟨s5, s6⟩ := s4 n h0 hn
    have rsn := z3 n hn
    have hg := hr.2.2.2.2 n hn
    subst c7; subst c9; subst c10
    refine ⟨fun hk => ?_, fun hk => s_refused (k := 3) (by decide) (s5 hk _ _ _ _ hw)⟩
    obtain ⟨s7, s8⟩ := s6 hk
    have hL : vL (W j) ≠ 45 := fun z => hnf ⟨h0, z⟩
    -- whether its places are points
    have has : ∀ (Q' : Int32 → Prop), ((∀ i, i < n → num (rV (R a) i) (vP (W j))) → Q' 1) → ((¬ ∀ i, i < n → num (rV (R a) i) (vP (W j))) → Q' 0) → w_X6_rowHasPointsOf (nI a) g rp rs (nI (vP (W j))) oP Q' := by
      intro Q' t1 t0
      have key : ∀ m i, m + i = n → (∀ q, q < i → num (rV (R a) q) (vP (W j))) → ∃ N, w_X6_rowHasPointsOf_2 (nI a) g rp rs (nI (vP (W j))) oP Q' N (nI i) := by
        intro m
        induction m with
        | zero =>
          intro i hi ha'
          have : i = n := by omega
          subst this
          refine ⟨1, in4 ha, ?_⟩
          rw [cl45 (by omega), rsn]
          exact pk_le i i (fun _ => ⟨Or.inr rfl, t1 ha'⟩) (fun z => by omega)
        | succ m ih =>
          intro i hi ha'
          by_cases hp : num (rV (R a) i) (vP (W j))
          · obtain ⟨N, hN⟩ := ih (i + 1) (by omega) (fun q hq => by
              by_cases c : q = i
              · rw [c]; exact hp
              · exact ha' q (by omega))
            refine ⟨N + 1, in4 ha, ?_⟩
            rw [cl45 (by omega), rsn]
            refine pk_le n i (fun z => by omega) (fun _ => ⟨in4 ha, hr.2.2.1, vp_in_nI (by omega) (by decide), ?_⟩)
            rw [cl45 (by omega), hg i (by omega)]
            refine s_hasPoint c2 (fun q hq e => ⟨fun _ => ?_, fun z => absurd z (by decide)⟩) (fun z => absurd hp z)
            rw [nI_1]; exact hN
          · refine ⟨1, in4 ha, ?_⟩
            rw [cl45 (by omega), rsn]
            refine pk_le n i (fun z => by omega) (fun _ => ⟨in4 ha, hr.2.2.1, vp_in_nI (by omega) (by decide), ?_⟩)
            rw [cl45 (by omega), hg i (by omega)]
            exact s_hasPoint c2 (fun q hq e => absurd ⟨q, hq, e⟩ hp) (fun z => ⟨fun d => absurd rfl d, fun _ => ⟨Or.inl rfl, t0 (fun zz => z (zz i (by omega)))⟩⟩)
      exact key n 0 (by omega) (fun q hq => absurd hq (Nat.not_lt_zero _))
    refine has _ (fun hall => ⟨fun _ => ?_, fun z => absurd z (by decide)⟩) (fun hno => ⟨fun z => absurd rfl z, fun _ => s_refused (k := 2) (by decide) (s7 hno _ _ _ _ hw)⟩)
    obtain ⟨s9, s10⟩ := s8 hall
    refine lpf (fun N i q => w_X6_setOfRow_5 (nI a) g rp rs oP _ N q (nI i)) (stR (rV (R a))) n 0 (Nat.zero_le _) (fun N => ?_) (fun N i _ hi ih => ?_)
    · refine ⟨in4 ha, ?_⟩
      rw [cl45 (by omega), rsn]
      refine pk_le n n (fun _ => s_bitCount ?_) (fun z => by omega)
      have hpl := pop_le (stR (rV (R a)) n)
      refine pk_le 2 (pop (stR (rV (R a)) n)) (fun hp2 => s_add c2 (by omega) ?_) (fun hp2 => s_refused (k := 5) (by decide) (s9 hp2 _ _ _ _ hw))
      rw [nI_pred]
      refine s10 hp2 _ _ _ _ ⟨?_, fun i hi => upW_ne hi⟩
      rw [upW_same]
      have hok : okW (vP (W j)) (vL (W j)) (vG (W j)) (nI (vP (W j))) (nI (vL (W j))) nr st th := ⟨rfl, rfl, c11, fun p hp => ⟨c12 p hp, c13 p hp⟩⟩
      subst c6
      exact CW_of h0 rfl c8 (okW_add hok (stR (rV (R a)) n))
    · refine ⟨in4 ha, ?_⟩
      rw [cl45 (by omega), rsn]
      refine pk_le n i (fun z => by omega) (fun _ => ⟨in4 ha, hr.2.2.1, vp_in_nI (by omega) (by decide), ?_⟩)
      rw [cl45 (by omega), hg i hi, nI_1]
      exact ih
  refine ⟨g1, g2, fun c => rest (fun z => z.1 ((FO_0 h).mp c)), fun c => ?_⟩
  have h0 : vP (W j) ≠ 0 := fun z => c ((FO_0 h).mpr z)
  obtain ⟨c1, c2, c3, c4, c5, c6, c7, c8, c9, c10, c11, c12, c13⟩ := FO_at h h0
  subst c10
  exact pk_lt (vL (W j)) 45 (fun d => rest (fun z => by omega)) (fun d => s1 h0 (by omega) _ _ _ _ hw)
end
