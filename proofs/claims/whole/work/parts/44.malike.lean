/-! the reference's likeness is the machine -/
/-- whether point p may be sent to q, by what is sent before it -/
def cnd (g h : Nat → Int64) (L : Nat) (im : Nat → Int32) (U : Int64) (p q : Nat) : Prop := hs U q = false ∧ pop (thr h L q) = pop (thr g L p) ∧ (nrs h L q &&& U) = wnt g L im p
theorem num_of {x : Int32} {P : Nat} (hP : P ≤ 45) (h : num x P) : num x 45 := by
  obtain ⟨j, hj, e⟩ := h
  exact ⟨j, by omega, e⟩
/-- told point by point -/
theorem cnd_iff {g h : Nat → Int64} {P L p q : Nat} {im : Nat → Int32} {U : Int64} (hP : P ≤ 45) (hh : gOK h P L) (hp : p < P) (hq : q < P) (him : ∀ k, k < p → num (im k) P) (inj : ∀ k k', k < k' → k' < p → im k ≠ im k') (hU : ∀ k, hs U k = true ↔ k < P ∧ ∃ i, i < p ∧ im i = nI k) : cnd g h L im U p q ↔ (pop (thr g L p) = pop (thr h L q) ∧ ∀ k, k < p → im k ≠ nI q ∧ ∀ i, i < P → im k = nI i → hs (nrs g L p) k = hs (nrs h L q) i) := by
  have e1 : hs U q = false ↔ ∀ k, k < p → im k ≠ nI q := by
    constructor
    · intro z k hk e
      have := (hU q).mpr ⟨hq, k, hk, e⟩
      rw [z] at this; cases this
    · intro z
      refine bool_ff (fun z2 => ?_)
      obtain ⟨-, k, hk, e⟩ := (hU q).mp z2
      exact z k hk e
  have inj' : ∀ k k', k < p → k' < p → im k = im k' → k = k' := fun k k' h1 h2 e => by
    rcases Nat.lt_trichotomy k k' with c | c | c
    · exact absurd e (inj k k' c h2)
    · exact c
    · exact absurd e.symm (inj k' k c h1)
  have e2 : (nrs h L q &&& U) = wnt g L im p ↔ ∀ k, k < p → ∀ i, i < P → im k = nI i → hs (nrs g L p) k = hs (nrs h L q) i := by
    have hw : ∀ i, hs (wnt g L im p) i = true ↔ ∃ k, k < p ∧ hs (nrs g L p) k = true ∧ im k = nI i ∧ i < 45 := fun i => by
      unfold wnt
      rw [hs_imgF i p (fun k hk => num_of hP (him k hk))]
      constructor
      · rintro ⟨k, z1, z2, z3⟩
        rw [hs_and, Bool.and_eq_true] at z2
        exact ⟨k, z1, z2.1, z3⟩
      · rintro ⟨k, z1, z2, z3⟩
        refine ⟨k, z1, ?_, z3⟩
        rw [hs_and, z2, hs_blw (by omega)]
        simp [z1]
    constructor
    · intro e k hk i hi ei
      cases hb : hs (nrs g L p) k
      · refine (bool_ff (fun z => ?_)).symm
        have h1 : hs (nrs h L q &&& U) i = true := by
          rw [hs_and, z, (hU i).mpr ⟨hi, k, hk, ei⟩]; rfl
        rw [e] at h1
        obtain ⟨k', z1, z2, z3, -⟩ := (hw i).mp h1
        have := inj' k' k z1 hk (z3.trans ei.symm)
        rw [this, hb] at z2; cases z2
      · have h1 : hs (wnt g L im p) i = true := (hw i).mpr ⟨k, hk, hb, ei, by omega⟩
        rw [← e, hs_and, Bool.and_eq_true] at h1
        exact h1.1.symm
    · intro z
      refine hs_iff (fun i _ => ?_)
      rw [hs_and, Bool.and_eq_true, hw i]
      constructor
      · rintro ⟨z1, z2⟩
        obtain ⟨hi, k, hk, ei⟩ := (hU i).mp z2
        exact ⟨k, hk, by rw [z k hk i hi ei]; exact z1, ei, by omega⟩
      · rintro ⟨k, hk, z1, z2, z3⟩
        obtain ⟨j, hj, ej⟩ := him k hk
        have : j = i := (nI_eq (by omega) (by omega)).mp (ej.symm.trans z2)
        subst this
        exact ⟨by rw [← z k hk j hj z2]; exact z1, (hU j).mpr ⟨hj, k, hk, z2⟩⟩
  unfold cnd
  rw [e1, e2]
  constructor
  · rintro ⟨z1, z2, z3⟩
    exact ⟨z2.symm, fun k hk => ⟨z1 k hk, z3 k hk⟩⟩
  · rintro ⟨z1, z2⟩
    exact ⟨fun k hk => (z2 k hk).1, z1.symm, fun k hk => (z2 k hk).2⟩
section
variable {P L : Nat} {g h : Nat → Int64} {deg odeg : Nat → Int32} {nr onr : Nat → Int64}
/-- what the reference's likeness reads -/
def alP (P L : Nat) (g h : Nat → Int64) (deg odeg : Nat → Int32) (nr onr : Nat → Int64) : Prop := P ≤ 45 ∧ L ≤ 45 ∧ gOK g P L ∧ gOK h P L ∧ ∀ p, p < P → deg p = nI (pop (thr g L p)) ∧ odeg p = nI (pop (thr h L p)) ∧ nr p = nrs g L p ∧ onr p = nrs h L p
theorem m_maySend (ha : alP P L g h deg odeg nr onr) {p q : Nat} (hp : p < P) (hq : q < P) {im goes : Nat → Int32} {U : Int64} (him : ∀ k, k < p → num (im k) P) (inj : ∀ k k', k < k' → k' < p → im k ≠ im k') (hU : ∀ k, hs U k = true ↔ k < P ∧ ∃ i, i < p ∧ im i = nI k) (hg : ∀ k, k < p → goes k = im k) {Q : Int32 → Prop} (h1 : cnd g h L im U p q → Q 1) (h0 : ¬ cnd g h L im U p q → Q 0) : w_X7_maySend (nI p) (nI q) deg goes nr odeg onr Q := by
  obtain ⟨hP, hL, gg, gh, hd⟩ := ha
  rw [cnd_iff hP gh hp hq him inj hU] at h1 h0
  refine ⟨in45 (by omega), in45 (by omega), ?_⟩
  rw [cl45 (by omega), cl45 (by omega), (hd p hp).1, (hd q hq).2.1]
  have loop : ∀ (F : Prop), (∀ z, z < p → (F → True)) → ∀ m k (y : Int32), m + k = p → ((y = 1 ∧ pop (thr g L p) = pop (thr h L q) ∧ ∀ j, j < k → im j ≠ nI q ∧ ∀ i, i < P → im j = nI i → hs (nrs g L p) j = hs (nrs h L q) i) ∨ (y = 0 ∧ ¬ (pop (thr g L p) = pop (thr h L q) ∧ ∀ j, j < p → im j ≠ nI q ∧ ∀ i, i < P → im j = nI i → hs (nrs g L p) j = hs (nrs h L q) i))) → ∃ n, w_X7_maySend_24 (nI p) (nI q) deg goes nr odeg onr Q n y (nI k) := by
    intro F _ m
    induction m with
    | zero =>
      intro k y hk hy
      have : k = p := by omega
      subst this
      refine ⟨1, pk_le k k (fun _ => ?_) (fun c => by omega)⟩
      rcases hy with ⟨rfl, hy⟩ | ⟨rfl, hy⟩
      · exact ⟨Or.inr rfl, h1 hy⟩
      · exact ⟨Or.inl rfl, h0 hy⟩
    | succ m ih =>
      intro k y hk hy
      rcases hy with ⟨rfl, hy1, hy2⟩ | ⟨rfl, hy⟩
      · obtain ⟨i, hi, ei⟩ := him k (by omega)
        have fail : (¬ (im k ≠ nI q ∧ ∀ i, i < P → im k = nI i → hs (nrs g L p) k = hs (nrs h L q) i)) → ∃ n, w_X7_maySend_24 (nI p) (nI q) deg goes nr odeg onr Q n 0 (nI k + 1) := fun z => by
          rw [nI_1]
          exact ih (k + 1) 0 (by omega) (Or.inr ⟨rfl, fun zz => z (zz.2 k (by omega))⟩)
        by_cases cok : (im k ≠ nI q ∧ ∀ i, i < P → im k = nI i → hs (nrs g L p) k = hs (nrs h L q) i)
        · obtain ⟨n, hn⟩ := ih (k + 1) 1 (by omega) (Or.inl ⟨rfl, hy1, fun j hj => by
            by_cases c : j = k
            · rw [c]; exact cok
            · exact hy2 j (by omega)⟩)
          have e := cok.2 i hi ei
          refine ⟨n + 1, pk_le p k (fun c => by omega) (fun _ => ⟨fun c => absurd c (by decide), fun _ => ⟨in46 (by omega), ?_⟩⟩)⟩
          rw [cl45 (by omega), hg k (by omega)]
          refine ⟨fun c => absurd c cok.1, fun _ => ⟨in45 (by omega), ?_⟩⟩
          rw [cl45 (i := p) (by omega), cl45 (i := q) (by omega), (hd p hp).2.2.1, (hd q hq).2.2.2, ei]
          refine m_has (by omega) (fun b => ⟨in45 (by omega), in46 (by omega), m_has (by omega) (fun b2 => ⟨fun c => absurd rfl c, fun _ => ?_⟩) (fun b2 => ?_)⟩) (fun b => ⟨in45 (by omega), in46 (by omega), m_has (by omega) (fun b2 => ?_) (fun b2 => ⟨fun c => absurd rfl c, fun _ => ?_⟩)⟩)
          · show w_X7_maySend_24 _ _ _ _ _ _ _ Q n 1 (nI k + 1)
            rw [nI_1]; exact hn
          · rw [b, b2] at e; cases e
          · rw [b, b2] at e; cases e
          · show w_X7_maySend_24 _ _ _ _ _ _ _ Q n 1 (nI k + 1)
            rw [nI_1]; exact hn
        · obtain ⟨n, hn⟩ := fail cok
          refine ⟨n + 1, pk_le p k (fun c => by omega) (fun _ => ⟨fun c => absurd c (by decide), fun _ => ⟨in46 (by omega), ?_⟩⟩)⟩
          rw [cl45 (by omega), hg k (by omega)]
          refine ⟨fun _ => hn, fun c => ⟨in45 (by omega), ?_⟩⟩
          have e : hs (nrs g L p) k ≠ hs (nrs h L q) i := fun e => cok ⟨c, fun i' hi' ei' => by
            have : i' = i := (nI_eq (by omega) (by omega)).mp (ei'.symm.trans ei)
            rw [this]; exact e⟩
          rw [cl45 (i := p) (by omega), cl45 (i := q) (by omega), (hd p hp).2.2.1, (hd q hq).2.2.2, ei]
          refine m_has (by omega) (fun b => ⟨in45 (by omega), in46 (by omega), m_has (by omega) (fun b2 => ?_) (fun b2 => ⟨fun _ => hn, fun d => absurd d (by decide)⟩)⟩) (fun b => ⟨in45 (by omega), in46 (by omega), m_has (by omega) (fun b2 => ⟨fun _ => hn, fun d => absurd d (by decide)⟩) (fun b2 => ?_)⟩)
          · exact absurd (b.trans b2.symm) e
          · exact absurd (b.trans b2.symm) e
      · exact ⟨1, pk_le p k (fun c => by omega) (fun _ => ⟨fun _ => ⟨Or.inl rfl, h0 hy⟩, fun c => absurd rfl c⟩)⟩
  refine ⟨fun c => loop True (fun _ _ _ => trivial) p 0 0 (by omega) (Or.inr ⟨rfl, fun z => c (by rw [z.1])⟩), fun c => loop True (fun _ _ _ => trivial) p 0 1 (by omega) (Or.inl ⟨rfl, pop_nI.mp c, fun j hj => absurd hj (Nat.not_lt_zero _)⟩)⟩
end
/-- the lines' images, as the reference looks -/
theorem m_isSent {P L i j : Nat} {g h : Nat → Int64} {goes im lc pt : Nat → Int32} {ln : Nat → Int64} (hi : i < 6) (hj : j < 6) (hP : P ≤ 45) (hL : L ≤ 45) (hp : pt i = nI P) (hl : lc i = nI L) (hg : ∀ l, l < L → mg ln i l = g l) (hh : ∀ l, l < L → mg ln j l = h l) (hgo : ∀ k, k < P → goes k = im k) {Q : Int32 → Prop} (q : Q (if fit g h P L im then 1 else 0)) : w_X7_isSent (nI i) (nI j) goes lc ln pt Q := by
  refine ⟨in6 hi, ?_⟩
  rw [cl45 (by omega), hl]
  have key : ∀ m l u, m + l = L → fitU g h P L im l = some u → ∃ n, w_X7_isSent_13 (nI i) (nI j) (nI L) goes lc ln pt Q n u (nI l) := by
    intro m
    induction m with
    | zero =>
      intro l u hm hu
      have : l = L := by omega
      subst this
      refine ⟨1, pk_le l l (fun _ => ⟨Or.inr rfl, ?_⟩) (fun c => by omega)⟩
      unfold fit at q
      rw [hu] at q
      exact q
    | succ m ih =>
      intro l u hm hu
      have e : fitU g h P L im (l + 1) = if fnL h L u (imgF im (g l) P) < L then some (u ||| vshl 1 (nI (fnL h L u (imgF im (g l) P)))) else none := by rw [fitU, hu]
      have inner : ∀ (K : Int64 → Int32 → Prop), (fnL h L u (imgF im (g l) P) < L → K (u ||| vshl 1 (nI (fnL h L u (imgF im (g l) P)))) (nI (l + 1))) → ∃ n, w_X7_isSent_25 (nI i) (nI j) (nI L) u (nI l) goes lc ln pt K Q n 0 0 := by
        intro K hK
        refine lpf (fun n p s => w_X7_isSent_25 (nI i) (nI j) (nI L) u (nI l) goes lc ln pt K Q n s (nI p)) (imgF im (g l)) P 0 (Nat.zero_le _) (fun n => ?_) (fun n p _ hp' ihp => ?_)
        · refine ⟨in6 hi, ?_⟩
          rw [cl45 (by omega), hp]
          refine pk_le P P (fun _ => ?_) (fun c => by omega)
          have behind : w_X7_isSent_123 (nI i) (nI j) (nI L) u (nI l) (nI (fnL h L u (imgF im (g l) P))) goes lc ln pt K Q := by
            have hle := fnL_le (h := h) (L := L) (u := u) (x := imgF im (g l) P)
            refine ⟨fun c => ?_, fun c => ⟨Or.inl rfl, ?_⟩⟩
            · rw [nI_1]
              exact hK (by
                have : fnL h L u (imgF im (g l) P) ≠ L := fun z => c (by rw [z])
                omega)
            · have hc : fnL h L u (imgF im (g l) P) = L := (nI_eq (by omega) (by omega)).mp c
              rw [if_neg (by omega)] at e
              have := fitU_none e (L - (l + 1))
              rw [show l + 1 + (L - (l + 1)) = L by omega] at this
              unfold fit at q
              rw [this] at q
              exact q
          refine lpq (fun n k => w_X7_isSent_83 (nI i) (nI j) (nI L) u (nI l) (imgF im (g l) P) goes lc ln pt K Q n (nI k)) (fnL h L u (imgF im (g l) P)) 0 (Nat.zero_le _) (fun n => ?_) (fun n k _ hk ihk => ?_)
          · have hle := fnL_le (h := h) (L := L) (u := u) (x := imgF im (g l) P)
            refine pk_le L (fnL h L u (imgF im (g l) P)) (fun _ => behind) (fun c => ?_)
            obtain ⟨y1, y2⟩ := fnL_yes c
            refine m_has (by omega) (fun b => by rw [y1] at b; cases b) (fun _ => ⟨fun d => absurd rfl d, fun _ => ⟨ix_in hj (by omega), ?_⟩⟩)
            rw [ix_c (l := fnL h L u (imgF im (g l) P)) hj (by omega) ln, hh _ c, lgc]
            exact ⟨fun _ => behind, fun d => absurd y2 d⟩
          · have hle := fnL_le (h := h) (L := L) (u := u) (x := imgF im (g l) P)
            refine pk_le L k (fun c => by omega) (fun _ => m_has (by omega) (fun b => ⟨fun _ => ?_, fun d => absurd d (by decide)⟩) (fun b => ⟨fun d => absurd rfl d, fun _ => ⟨ix_in hj (by omega), ?_⟩⟩))
            · show w_X7_isSent_83 _ _ _ _ _ _ _ _ _ _ _ _ n (nI k + 1)
              rw [nI_1]; exact ihk
            · rw [ix_c (l := k) hj (by omega) ln, hh _ (by omega), lgc]
              refine ⟨fun d => absurd d (fnL_no hk b), fun _ => ?_⟩
              show w_X7_isSent_83 _ _ _ _ _ _ _ _ _ _ _ _ n (nI k + 1)
              rw [nI_1]; exact ihk
        · refine ⟨in6 hi, ?_⟩
          rw [cl45 (by omega), hp]
          refine pk_le P p (fun c => by omega) (fun _ => ⟨ix_in hi (by omega), ?_⟩)
          rw [ix_c (l := l) hi (by omega) ln, hg l (by omega)]
          refine m_has (by omega) (fun b => ⟨fun d => absurd d (by decide), fun _ => ⟨in46 (by omega), ?_⟩⟩) (fun b => ⟨fun _ => ?_, fun d => absurd rfl d⟩)
          · rw [cl45 (by omega), hgo p hp']
            rw [imgF, b, if_pos rfl] at ihp
            show w_X7_isSent_25 _ _ _ _ _ _ _ _ _ _ _ n _ (nI p + 1)
            rw [nI_1]; exact ihp
          · rw [imgF, b, if_neg (by simp)] at ihp
            show w_X7_isSent_25 _ _ _ _ _ _ _ _ _ _ _ n (_ ||| 0) (nI p + 1)
            rw [nI_1, or0]; exact ihp
      by_cases c : fnL h L u (imgF im (g l) P) < L
      · rw [if_pos c] at e
        obtain ⟨n, hn⟩ := ih (l + 1) _ (by omega) e
        exact ⟨n + 1, pk_le L l (fun d => by omega) (fun _ => inner _ (fun _ => hn))⟩
      · exact ⟨1, pk_le L l (fun d => by omega) (fun _ => inner _ (fun d => absurd d c))⟩
  exact key L 0 0 rfl rfl
