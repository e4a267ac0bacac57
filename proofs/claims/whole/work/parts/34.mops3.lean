/-! the reference's calls, 3 -/
/-- a row's set -/
def stR (v : Nat → Int32) : Nat → Int64
  | 0 => 0
  | n + 1 => stR v n ||| vshl 1 (v n)
theorem hs_stR {v : Nat → Int32} {P : Nat} (hP : P ≤ 45) (k : Nat) : ∀ n, (∀ i, i < n → num (v i) P) → (hs (stR v n) k = true ↔ ∃ i, i < n ∧ v i = nI k ∧ k < P)
  | 0, _ => by
    rw [stR, hs_0]
    constructor
    · intro h; cases h
    · rintro ⟨i, hi, -⟩; omega
  | n + 1, h => by
    obtain ⟨j, hj, e⟩ := h n (by omega)
    rw [stR, hs_or, Bool.or_eq_true, hs_stR hP k n (fun i hi => h i (by omega)), e, hs_one (by omega)]
    constructor
    · rintro (⟨i, h1, h2⟩ | h1)
      · exact ⟨i, by omega, h2⟩
      · have : k = j := by simpa using h1
        exact ⟨n, by omega, by rw [this]; exact e, by omega⟩
    · rintro ⟨i, h1, h2, h3⟩
      by_cases c : i = n
      · subst c
        have := (nI_eq (by omega) (by omega)).mp (e.symm.trans h2)
        right; simp [this]
      · exact Or.inl ⟨i, by omega, h2, h3⟩
theorem pop_ex {x : Int64} (h : 0 < pop x) : ∃ k, hs x k = true := by
  obtain ⟨k, -, hk⟩ := fb_ct_pos.mp h
  exact ⟨k, hk⟩
abbrev QW4 : Type := Int32 → Int32 → (Nat → Int32) → AW → Prop
abbrev lnV (v : AV) (x : Int64) : AV := (vP v, vL v + 1, vK v, vM v, vp_updL (vG v) (vL v) x)
def sp_line (W : AW) (R : AR) (x r fd : Int32) (fs : Nat → Int32) (Q : QW4) : Prop := (¬ (num x 6 ∧ num r 4) → Q (-1) fd fs W) ∧ ∀ j a, j < 6 → a < 4 → x = nI j → r = nI a → (vP (W j) ≠ 0 → vL (W j) = 45 → Q (-2) fd fs W) ∧ (¬ (vP (W j) ≠ 0 ∧ vL (W j) = 45) → (vP (W j) = 0 ∨ rN (R a) = 0 → Q (-3) 1 (fnd fs 1) W) ∧ ∀ n, vP (W j) ≠ 0 → rN (R a) = n + 1 → (vK (W j) ≠ 0 → Q (-3) 3 (fnd fs 3) W) ∧ (vK (W j) = 0 → ((¬ ∀ i, i < n → num (rV (R a) i) (vP (W j))) → Q (-3) 2 (fnd fs 2) W) ∧ ((∀ i, i < n → num (rV (R a) i) (vP (W j))) → (pop (stR (rV (R a)) n) < 2 → Q (-3) 5 (fnd fs 5) W) ∧ (2 ≤ pop (stR (rV (R a)) n) → Q (nI (vL (W j))) fd fs (upW W j (lnV (W j) (stR (rV (R a)) n)))))))
theorem stR_cong {v v' : Nat → Int32} : ∀ {n : Nat}, (∀ i, i < n → v i = v' i) → stR v n = stR v' n
  | 0, _ => rfl
  | n + 1, h => by rw [stR, stR, h n (by omega), stR_cong (fun i hi => h i (by omega))]
theorem lnV_ok {v : AV} {R : RV} {n : Nat} (h : AVok v) (h0 : vP v ≠ 0) (hL : vL v ≠ 45) (hn : ∀ i, i < n → num (rV R i) (vP v)) (h2 : 2 ≤ pop (stR (rV R) n)) : AVok (lnV v (stR (rV R) n)) := by
  rcases h with h | ⟨h1, h3, h4, h5⟩
  · exact absurd h h0
  · refine Or.inr ⟨h1, by show vL v + 1 ≤ 45; omega, fun l hl k hk => ?_, fun l hl => ?_⟩
    · change hs (vp_updL (vG v) (vL v) _ l) k = true at hk
      unfold vp_updL at hk
      by_cases e : l = vL v
      · rw [if_pos e] at hk
        obtain ⟨i, -, -, h6⟩ := (hs_stR h1 k n hn).mp hk
        exact h6
      · rw [if_neg e] at hk
        exact h4 l (by have : l < vL v + 1 := hl; omega) k hk
    · show ∃ k, hs (vp_updL (vG v) (vL v) _ l) k = true
      unfold vp_updL
      by_cases e : l = vL v
      · rw [if_pos e]; exact pop_ex (by omega)
      · rw [if_neg e]; exact h5 l (by have : l < vL v + 1 := hl; omega)
def sp_sent (x : Int32) (m : Nat) (f : Nat → Int32) (Q : Int32 → Prop) : Prop := (∀ p, p < m → x = nI p → Q (f p)) ∧ (¬ num x m → Q (-9))
def sp_findings (x : Int32) (fs : Nat → Int32) (Q : Int32 → Prop) : Prop := (∀ k, 1 ≤ k → k ≤ 5 → x = nI k → Q (fs k)) ∧ ((¬ ∃ k, 1 ≤ k ∧ k ≤ 5 ∧ x = nI k) → Q (-1))
/-- what a world counts -/
def cnV (k : Nat) (v : AV) : Nat := if vP v = 0 then 0 else if k = 0 then 1 else if k = 1 then vP v else if k = 2 then vL v else 0
def cnW (W : AW) (k : Nat) : Nat → Nat := fb_sm (fun j => cnV k (W j))
def cnR (R : AR) : Nat → Nat := fb_ct (fun j => decide (rN (R j) ≠ 0))
def sp_count (W : AW) (R : AR) (x : Int32) (Q : Int32 → Prop) : Prop := (¬ num x 4 → Q (-1)) ∧ ∀ k, k < 4 → x = nI k → Q (nI (if k = 3 then cnR R 4 else cnW W k 6))
def dgW (W : AW) : Nat → Int64
  | 0 => 17
  | j + 1 => if vP (W j) = 0 then 31 * dgW W j - 1 else dgF (vG (W j)) (31 * (31 * (31 * dgW W j + (nI (vP (W j))).toInt64) + (nI (vL (W j))).toInt64) + (vK (W j)).toInt64) (vL (W j))
def dgI (f : Nat → Int32) (a : Int64) : Nat → Int64
  | 0 => a
  | n + 1 => 31 * dgI f a n + (f n).toInt64
def dgR (R : AR) (a : Int64) : Nat → Int64
  | 0 => a
  | j + 1 => if rN (R j) = 0 then 31 * dgR R a j + (-1 : Int32).toInt64 else dgI (rV (R j)) (31 * dgR R a j + (nI (rN (R j) - 1)).toInt64) (rN (R j) - 1)
def sp_digest (W : AW) (R : AR) (Q : Int64 → Prop) : Prop := Q (dgR R (dgW W 6) 4)
def sp_dual (W : AW) (x t fd : Int32) (fs : Nat → Int32) (Q : QW4) : Prop := (¬ num t 6 → Q (-1) fd fs W) ∧ ∀ b, b < 6 → t = nI b → lk W x fd fs (fun r fd fs => Q r fd fs W) (fun j => ((¬ ∀ p, p < vP (W j) → 2 ≤ pop (thr (vG (W j)) (vL (W j)) p)) → Q (-4) fd fs W) ∧ ((∀ p, p < vP (W j) → 2 ≤ pop (thr (vG (W j)) (vL (W j)) p)) → Q (nI (vL (W j))) fd fs (upW W b (vL (W j), vP (W j), 3, 0, thr (vG (W j)) (vL (W j))))))
def sp_part (W : AW) (x : Int32) (s : Int64) (t fd : Int32) (fs : Nat → Int32) (Q : QW4) : Prop := (¬ num t 6 → Q (-1) fd fs W) ∧ ∀ b, b < 6 → t = nI b → lk W x fd fs (fun r fd fs => Q r fd fs W) (fun j => (¬ sub s (vP (W j)) → Q (-1) fd fs W) ∧ (sub s (vP (W j)) → (ptC (vG (W j)) s (vL (W j)) = 0 → Q (-4) fd fs W) ∧ (ptC (vG (W j)) s (vL (W j)) ≠ 0 → Q (nI (pop s)) fd fs (upW W b (pop s, ptC (vG (W j)) s (vL (W j)), 3, 0, ptG (vG (W j)) s (vL (W j)))))))
theorem dual_ok {v : AV} (h : AVok v) (h0 : vP v ≠ 0) (h2 : ∀ p, p < vP v → 2 ≤ pop (thr (vG v) (vL v) p)) : AVok (vL v, vP v, 3, 0, thr (vG v) (vL v)) := by
  rcases h with h | ⟨h1, h3, h4, h5⟩
  · exact absurd h h0
  · refine Or.inr ⟨h3, h1, fun l hl k hk => thr_in h3 hk, fun l hl => pop_ex (by have := h2 l hl; show 0 < pop (thr (vG v) (vL v) l); omega)⟩
theorem clo_yes {x s : Int64} {k : Nat} (h1 : hs s k = true) (h2 : hs x k = true) : ∀ n, n ≤ 45 → k < n → hs (clo x s n) (fb_ct (hs s) k) = true
  | 0, _, h => by omega
  | n + 1, hn, h => by
    have hl := fb_ct_le (hs s) n
    rw [clo]
    by_cases e : k = n
    · subst e
      rw [h1, h2]
      simp only [if_true]
      rw [hs_or, hs_one (by omega)]
      simp
    · have ih := clo_yes h1 h2 n (by omega) (by omega)
      cases hb : hs s n
      · simp only [Bool.false_eq_true, if_false]; exact ih
      · cases hc : hs x n
        · simp only [Bool.false_eq_true, if_false, if_true]; exact ih
        · simp only [if_true]
          rw [hs_or, ih]; rfl
theorem pt_ok {g : Nat → Int64} {s : Int64} (hs45 : ∀ k, 45 ≤ k → hs s k = false) : ∀ L, gOK (ptG g s L) (pop s) (ptC g s L) ∧ gNE (ptG g s L) (ptC g s L)
  | 0 => ⟨fun l hl => absurd hl (Nat.not_lt_zero _), fun l hl => absurd hl (Nat.not_lt_zero _)⟩
  | L + 1 => by
    obtain ⟨h1, h2⟩ := pt_ok (g := g) hs45 L
    by_cases c : 2 ≤ pop (g L &&& s)
    · rw [ptC_y c, ptG_y c]
      refine ⟨fun l hl k hk => ?_, fun l hl => ?_⟩
      · unfold vp_updL at hk
        by_cases e : l = ptC g s L
        · rw [if_pos e] at hk
          rw [pop_45 hs45]
          exact clo_in 45 (by omega) hk
        · rw [if_neg e] at hk
          exact h1 l (by omega) k hk
      · unfold vp_updL
        by_cases e : l = ptC g s L
        · rw [if_pos e]
          obtain ⟨k, hk⟩ := pop_ex (x := g L &&& s) (by omega)
          rw [hs_and, Bool.and_eq_true] at hk
          have hk45 : k < 45 := Classical.byContradiction fun z => by
            have := hs45 k (by omega)
            rw [hk.2] at this; cases this
          exact ⟨_, clo_yes hk.2 hk.1 45 (by omega) hk45⟩
        · rw [if_neg e]; exact h2 l (by omega)
    · rw [ptC_n c, ptG_n c]
      exact ⟨h1, h2⟩
theorem part_ok {g : Nat → Int64} {s : Int64} {P L : Nat} (hP : P ≤ 45) (hL : L ≤ 45) (hs' : sub s P) {kd tg : Int32} : AVok (pop s, ptC g s L, kd, tg, ptG g s L) := by
  have h45 : ∀ k, 45 ≤ k → hs s k = false := fun k hk => hs' k (by omega)
  have hb : pop s ≤ 45 := by rw [pop_45 h45]; exact fb_ct_le _ _
  have hc := ptC_le g s L
  exact Or.inr ⟨hb, by show ptC g s L ≤ 45; omega, (pt_ok h45 L).1, (pt_ok h45 L).2⟩
theorem ptC_cong {g g' : Nat → Int64} {s : Int64} {L : Nat} (h : ∀ l, l < L → g l = g' l) : ptC g s L = ptC g' s L := fb_ct_cong (fun l hl => by rw [h l hl])
theorem ptG_cong {g g' : Nat → Int64} {s : Int64} : ∀ {L : Nat}, (∀ l, l < L → g l = g' l) → ptG g s L = ptG g' s L
  | 0, _ => rfl
  | L + 1, h => by
    have e := ptG_cong (s := s) (L := L) (fun l hl => h l (by omega))
    by_cases c : 2 ≤ pop (g L &&& s)
    · rw [ptG_y c, ptG_y (by rw [← h L (by omega)]; exact c), e, ptC_cong (fun l hl => h l (by omega)), h L (by omega)]
    · rw [ptG_n c, ptG_n (by rw [← h L (by omega)]; exact c), e]
section
variable {W : AW} {ks lc ms pt : Nat → Int32} {ln : Nat → Int64} {R : AR} {rows sizes : Nat → Int32}
theorem m_meets_ (h : MW W ks lc ln ms pt) {x m fd : Int32} {st : Int64} {fs : Nat → Int32} {Q : QF} (s : sp_meets W x st m fd fs Q) : w_X7_meets_ x st m fd fs lc ln pt Q := by
  refine m_lk h s (fun r fd' fs' hr q => bar_no hr q) (fun j hj e z q => bar_yes ?_)
  subst e
  obtain ⟨a1, a2, a3, a4, a5, a6, a7, a8, a9, a10⟩ := MW_at h hj z
  refine m_allOf hj a2 a5 ?_
  rw [lgc, sub_test a2]
  refine ⟨fun c => ?_, fun c => q.1 c⟩
  have q2 := q.2 c
  have b45 : ∀ i, i < vL (W j) → ∀ k, 45 ≤ k → hs (vG (W j) i &&& st) k = false := fun i hi => not45 a2 (fun k zz => by
    rw [hs_and, Bool.and_eq_true] at zz
    exact a4 i hi k zz.1)
  have rd : ∀ i, i < vL (W j) → ln ((45 : Int32) * nI j + nI i).toNatClampNeg = vG (W j) i := fun i hi => by rw [ix_c (l := i) hj (by omega) ln, a9 i hi]
  generalize hF : (fun i => pop (vG (W j) i &&& st)) = F at q2
  have hFi : ∀ i, F i = pop (vG (W j) i &&& st) := fun i => by rw [← hF]
  have hF64 : ∀ i, F i ≤ 64 := fun i => by rw [hFi]; exact pop_le _
  have ele : ∀ i, i < vL (W j) → F i ≤ 45 := fun i hi => by rw [hFi, pop_45 (b45 i hi)]; exact fb_ct_le _ _
  let B : Nat → Nat := fun i => if m = 0 then minF F 45 i else maxF F 0 i
  have hB : ∀ i, B i = if m = 0 then minF F 45 i else maxF F 0 i := fun _ => rfl
  have hB64 : ∀ i, B i ≤ 64 := fun i => by
    rw [hB]
    split
    · have := minF_le F 45 i; omega
    · exact maxF_le F 0 64 (by omega) hF64 i
  refine lpf (fun n i (b : Int32) => w_X7_meets__40 (nI j) st m fd fs lc ln pt Q n b (nI i)) (fun i => if i = 0 then -9 else nI (B i)) (vL (W j)) 0 (Nat.zero_le _) (fun n => ?_) (fun n i _ hi ih => ?_)
  · refine ⟨in6 hj, ?_⟩
    rw [cl45 (by omega), a6]
    refine pk_le (vL (W j)) (vL (W j)) (fun _ => ?_) (fun c => by omega)
    by_cases h0 : vL (W j) = 0
    · rw [if_pos h0]
      exact ⟨fun d => absurd d (by decide), fun _ => m_meets (k := 4) (by decide) (q2.1 h0)⟩
    · rw [if_neg h0]
      refine ⟨fun _ => ?_, fun d => absurd (nI_pos' (by have := hB64 (vL (W j)); omega)) d⟩
      exact q2.2 h0
  · refine ⟨in6 hj, ?_⟩
    rw [cl45 (by omega), a6]
    refine pk_le (vL (W j)) i (fun c => by omega) (fun _ => ⟨ix_in hj (by omega), ?_⟩)
    rw [rd i hi]
    refine m_bits (b45 i hi) ?_
    rw [← hFi]
    rw [if_neg (by omega)] at ih
    have fin : ∀ b : Int32, b = nI (B (i + 1)) → w_X7_meets__40 (nI j) st m fd fs lc ln pt Q n b (nI i + 1) := fun b e => by rw [e, nI_1]; exact ih
    have hbi := hB64 i
    have hfi := hF64 i
    have hei := ele i hi
    by_cases h0 : i = 0
    · subst h0
      rw [if_pos rfl]
      refine ⟨fun _ => fin _ ?_, fun d => absurd (by decide) d⟩
      congr 1
      rw [hB]
      split
      · rw [minF, minF]; split <;> omega
      · rw [maxF, maxF]; split <;> omega
    · rw [if_neg h0]
      refine ⟨fun d => absurd d (nI_pos (by omega)), fun _ => ⟨fun hm => pk_le (B i) (F i) (fun d => fin _ ?_) (fun d => fin _ ?_), fun hm => pk_le (F i) (B i) (fun d => fin _ ?_) (fun d => fin _ ?_)⟩⟩
      · rw [hB, if_pos hm] at d
        rw [hB, hB, if_pos hm, if_pos hm, minF, if_neg (by omega)]
      · rw [hB, if_pos hm] at d
        rw [hB, if_pos hm, minF, if_pos (by omega)]
      · rw [hB, if_neg hm] at d
        rw [hB, hB, if_neg hm, if_neg hm, maxF, if_neg (by omega)]
      · rw [hB, if_neg hm] at d
        rw [hB, if_neg hm, maxF, if_pos (by omega)]
theorem m_dual (h : MW W ks lc ln ms pt) {x t fd np nl : Int32} {fs : Nat → Int32} {nr : Nat → Int64} {Q : Int32 → Int32 → Int32 → Int32 → (Nat → Int32) → (Nat → Int32) → (Nat → Int32) → (Nat → Int64) → (Nat → Int32) → (Nat → Int64) → (Nat → Int32) → Prop} (s : sp_dual W x t fd fs (fun r fd fs W' => ∀ np nl ks lc ln ms nr pt, MW W' ks lc ln ms pt → Q r fd np nl fs ks lc ln ms nr pt)) : w_X7_dual x t fd np nl fs ks lc ln ms nr pt Q := by
  refine m_isNumber (fun j hj e => ⟨fun c => absurd c (by decide), fun _ => ?_⟩) (fun hn => ⟨fun _ => ?_, fun c => absurd rfl c⟩)
  rotate_left
  · by_cases ht : num t 6
    · obtain ⟨b, hb, e⟩ := ht
      exact (s.2 b hb e).1 hn _ _ _ _ _ _ _ _ h
    · exact s.1 ht _ _ _ _ _ _ _ _ h
  refine m_isNumber (fun b hb eb => ⟨fun _ => ?_, fun c => absurd c (by decide)⟩) (fun hn => ⟨fun c => absurd rfl c, fun _ => s.1 hn _ _ _ _ _ _ _ _ h⟩)
  refine m_lk h (s.2 b hb eb) (fun r fd' fs' hr q => bar_no hr (q _ _ _ _ _ _ _ _ h)) (fun j' hj' e' z q => bar_yes ?_)
  have ej : j' = j := (nI_eq (by omega) (by omega)).mp (e'.symm.trans e)
  subst ej
  subst e; subst eb
  obtain ⟨a1, a2, a3, a4, a5, a6, a7, a8, a9, a10⟩ := MW_at h hj z
  refine ⟨in6 hj, ?_⟩
  rw [cl45 (by omega), a6]
  have ht : thr (mg ln j') (vL (W j')) = thr (vG (W j')) (vL (W j')) := thr_fcong a9
  generalize hT : thr (vG (W j')) (vL (W j')) = T at ht q
  have hT45 : ∀ p k, 45 ≤ k → hs (T p) k = false := fun p => not45 a3 (fun k => by rw [← hT]; exact thr_in a3)
  refine pk_loop (fun n i (s : Int32 × (Nat → Int64)) => w_X7_dual_49 (nI j') (nI b) fd (nI (vL (W j'))) fs ks lc ln ms pt Q n s.1 (nI i) (nI i) s.2) (fun i s => (∀ p, p < i → s.2 p = T p) ∧ ((∀ p, p < i → 2 ≤ pop (T p)) → s.1 = 1) ∧ ((¬ ∀ p, p < i → 2 ≤ pop (T p)) → s.1 = 0)) (vP (W j')) 0 (1, nr) (Nat.zero_le _) ⟨fun p hp => by omega, fun _ => rfl, fun z => absurd (fun p hp => by omega) z⟩ (fun n s hs' => ?_) (fun n i s hi hs' ih => ?_)
  · obtain ⟨y, nr⟩ := s
    refine ⟨in6 hj, ?_⟩
    rw [cl45 (by omega), a5]
    refine pk_le (vP (W j')) (vP (W j')) (fun _ => ⟨fun c => ?_, fun c => ?_⟩) (fun c => by omega)
    · exact q.1 (fun zz => by rw [hs'.2.1 zz] at c; exact absurd c (by decide)) _ _ _ _ _ _ _ _ h
    · have hall : ∀ p, p < vP (W j') → 2 ≤ pop (T p) := Classical.byContradiction fun zz => c (hs'.2.2 zz)
      refine m_keep hb (by omega) (q.2 hall _ _ _ _ _ _ _ _ (MW_keep h hb ?_ (by omega) hs'.1))
      rw [← hT]
      exact dual_ok (h.1 j' hj) z (by rw [hT]; exact hall)
  · obtain ⟨y, nr⟩ := s
    refine ⟨in6 hj, ?_⟩
    rw [cl45 (by omega), a5]
    refine pk_le (vP (W j')) i (fun c => by omega) (fun _ => m_through hj a3 (by omega) a6 (m_add (by omega) ?_))
    rw [ht]
    have hrow : ∀ p, p < i + 1 → vp_updL nr i (T i) p = T p := fun p hp => by
      unfold vp_updL
      by_cases e : p = i
      · rw [if_pos e, e]
      · rw [if_neg e]; exact hs'.1 p (by omega)
    have go : ∀ y' : Int32, ((∀ p, p < i + 1 → 2 ≤ pop (T p)) → y' = 1) → ((¬ ∀ p, p < i + 1 → 2 ≤ pop (T p)) → y' = 0) → w_X7_dual_49 (nI j') (nI b) fd (nI (vL (W j'))) fs ks lc ln ms pt Q n y' (nI i + 1) (nI (i + 1)) (vp_updL nr i (T i)) := fun y' h1 h2 => by
      rw [nI_1]
      exact ih (y', vp_updL nr i (T i)) ⟨hrow, h1, h2⟩
    refine ⟨fun c => go 0 (fun zz => ?_) (fun _ => rfl), fun c => ⟨vp_in_nI (by omega) (by decide), ?_⟩⟩
    · have := hs'.2.1 (fun p hp => zz p (by omega))
      rw [this] at c
      exact absurd c (by decide)
    · rw [cl45 (by omega), vp_updL_same]
      have hpl := pop_le (T i)
      have hprev : ∀ p, p < i → 2 ≤ pop (T p) := Classical.byContradiction fun zz => c (hs'.2.2 zz)
      refine m_bits (hT45 i) (pk_le (pop (T i)) 1 (fun d => go 0 (fun zz => ?_) (fun _ => rfl)) (fun d => go 1 (fun _ => rfl) (fun zz => ?_)))
      · have := zz i (by omega); omega
      · exact absurd (fun p hp => by
          by_cases e : p = i
          · rw [e]; omega
          · exact hprev p (by omega)) zz
theorem m_part (h : MW W ks lc ln ms pt) {x t fd np nl : Int32} {st : Int64} {fs : Nat → Int32} {nr : Nat → Int64} {Q : Int32 → Int32 → Int32 → Int32 → (Nat → Int32) → (Nat → Int32) → (Nat → Int32) → (Nat → Int64) → (Nat → Int32) → (Nat → Int64) → (Nat → Int32) → Prop} (s : sp_part W x st t fd fs (fun r fd fs W' => ∀ np nl ks lc ln ms nr pt, MW W' ks lc ln ms pt → Q r fd np nl fs ks lc ln ms nr pt)) : w_X7_part x st t fd np nl fs ks lc ln ms nr pt Q := by
  refine m_isNumber (fun j hj e => ⟨fun c => absurd c (by decide), fun _ => ?_⟩) (fun hn => ⟨fun _ => ?_, fun c => absurd rfl c⟩)
  rotate_left
  · by_cases ht : num t 6
    · obtain ⟨b, hb, e⟩ := ht
      exact (s.2 b hb e).1 hn _ _ _ _ _ _ _ _ h
    · exact s.1 ht _ _ _ _ _ _ _ _ h
  refine m_isNumber (fun b hb eb => ⟨fun _ => ?_, fun c => absurd c (by decide)⟩) (fun hn => ⟨fun c => absurd rfl c, fun _ => s.1 hn _ _ _ _ _ _ _ _ h⟩)
  refine m_lk h (s.2 b hb eb) (fun r fd' fs' hr q => bar_no hr (q _ _ _ _ _ _ _ _ h)) (fun j' hj' e' z q => bar_yes ?_)
  have ej : j' = j := (nI_eq (by omega) (by omega)).mp (e'.symm.trans e)
  subst ej
  subst e; subst eb
  obtain ⟨a1, a2, a3, a4, a5, a6, a7, a8, a9, a10⟩ := MW_at h hj z
  refine m_allOf hj a2 a5 ?_
  rw [lgc, sub_test a2]
  refine ⟨fun c => m_bits (fun k hk => c k (by omega)) ?_, fun c => q.1 c _ _ _ _ _ _ _ _ h⟩
  have q := q.2 c
  generalize hg : vG (W j') = g at q a4 a9
  have b45 : ∀ i, i < vL (W j') → ∀ k, 45 ≤ k → hs (g i &&& st) k = false := fun i hi => not45 a2 (fun k zz => by
    rw [hs_and, Bool.and_eq_true] at zz
    exact a4 i hi k zz.1)
  have rd : ∀ i, i < vL (W j') → ln ((45 : Int32) * nI j' + nI i).toNatClampNeg = g i := fun i hi => by rw [ix_c (l := i) hj (by omega) ln, a9 i hi]
  have hc := ptC_le g st
  refine pk_loop (fun n i (r : Nat → Int64) => w_X7_part_66 (nI j') st (nI b) fd (nI (pop st)) fs ks lc ln ms pt Q n (nI i) (nI (ptC g st i)) r) (fun i r => ∀ l, l < ptC g st i → r l = ptG g st i l) (vL (W j')) 0 nr (Nat.zero_le _) (fun l hl => absurd hl (Nat.not_lt_zero _)) (fun n r hr => ?_) (fun n i r hi hr ih => ?_)
  · refine ⟨in6 hj, ?_⟩
    have := hc (vL (W j'))
    rw [cl45 (by omega), a6]
    refine pk_le (vL (W j')) (vL (W j')) (fun _ => ⟨fun d => ?_, fun d => ?_⟩) (fun c => by omega)
    · refine m_keep hb (by omega) (q.2 (fun zz => d (by rw [zz]; rfl)) _ _ _ _ _ _ _ _ (MW_keep h hb (part_ok a2 a3 c) (by omega) hr))
    · exact q.1 ((nI_eq (by omega) (by decide)).mp d) _ _ _ _ _ _ _ _ h
  · refine ⟨in6 hj, ?_⟩
    rw [cl45 (by omega), a6]
    refine pk_le (vL (W j')) i (fun c => by omega) (fun _ => ⟨ix_in hj (by omega), ?_⟩)
    rw [rd i hi]
    have hpl := pop_le (g i &&& st)
    have := hc i
    refine m_bits (b45 i hi) (pk_le (pop (g i &&& st)) 1 (fun d => ?_) (fun d => ⟨ix_in hj (by omega), ?_⟩))
    · have hn : ¬ 2 ≤ pop (g i &&& st) := by omega
      have ih := ih r (by rw [ptC_n hn, ptG_n hn]; exact hr)
      rw [ptC_n hn] at ih
      show w_X7_part_66 _ _ _ _ _ _ _ _ _ _ _ _ n _ _ _
      rw [nI_1]; exact ih
    · refine m_closed (m_add (by omega) ?_)
      have hy : 2 ≤ pop (g i &&& st) := by omega
      have ih := ih (vp_updL r (ptC g st i) (clo (g i) st 45)) (fun l hl => by
        rw [ptC_y hy] at hl
        rw [ptG_y hy]
        unfold vp_updL
        by_cases e : l = ptC g st i
        · rw [if_pos e, if_pos e]
        · rw [if_neg e, if_neg e]; exact hr l (by omega))
      rw [ptC_y hy] at ih
      show w_X7_part_66 _ _ _ _ _ _ _ _ _ _ _ _ n _ _ _
      rw [nI_1]; exact ih
end
