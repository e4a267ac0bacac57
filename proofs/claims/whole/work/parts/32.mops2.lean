theorem pop_sub {x y : Int64} (h : ∀ k, hs x k = true → hs y k = true) : pop x ≤ pop y := fb_ct_sub (fun k _ => h k)
theorem pop_lt {x y : Int64} (h : ∀ k, hs x k = true → hs y k = true) {k : Nat} (h1 : hs y k = true) (h2 : hs x k = false) : pop x < pop y := by
  have hk : k < 64 := Classical.byContradiction fun z => by rw [hs_big (by omega)] at h1; cases h1
  have e := fb_ct_upd (hs y) false hk
  rw [h1] at e
  simp only [if_true, Bool.false_eq_true, if_false, Nat.add_zero] at e
  have s : fb_ct (hs x) 64 ≤ fb_ct (fun i => if i = k then false else hs y i) 64 := fb_ct_sub (fun i _ hi => by
    by_cases c : i = k
    · rw [c, h2] at hi; cases hi
    · rw [if_neg c]; exact h i hi)
  unfold pop
  omega
theorem rch_mono (g : Nat → Int64) (P x k : Nat) : ∀ i, hs (rch g P x k) i = true → hs (rch g P x (k + 1)) i = true := fun i h => (hs_orA _ _ _ _ _).mpr (Or.inl h)
theorem rch_in {g : Nat → Int64} {P x : Nat} (hx : x < P) (hP : P ≤ 45) (hg : ∀ i k, i < P → hs (g i) k = true → k < P) : ∀ k i, hs (rch g P x k) i = true → i < P
  | 0, i, h => by
    rw [rch, hs_one (by omega)] at h
    have : i = x := by simpa using h
    omega
  | k + 1, i, h => by
    rcases (hs_orA _ _ _ _ _).mp h with h | ⟨j, h1, -, h3⟩
    · exact rch_in hx hP hg k i h
    · exact hg j i h1 h3
theorem rch_fix {g : Nat → Int64} {P x i : Nat} (h : rch g P x (i + 1) = rch g P x i) : ∀ m, rch g P x (i + m) = rch g P x i
  | 0 => rfl
  | m + 1 => by
    show orA g (rch g P x (i + m)) (rch g P x (i + m)) P = _
    rw [rch_fix h m]
    exact h
theorem rch_last {g : Nat → Int64} {P x b : Nat} (hx : x < P) (hb : b < P) (hP : P ≤ 45) (hg : ∀ i k, i < P → hs (g i) k = true → k < P) (h : ∀ k, k < P → hs (rch g P x k) b = false) : hs (rch g P x P) b = false := by
  have key : ∀ k, k < P → (∃ i, i < k ∧ rch g P x (i + 1) = rch g P x i) ∨ k + 1 ≤ pop (rch g P x k) := by
    intro k
    induction k with
    | zero =>
      intro _
      right
      have : 0 < fb_ct (hs (rch g P x 0)) 64 := fb_ct_pos.mpr ⟨x, by omega, by rw [rch, hs_one (by omega)]; simp⟩
      exact this
    | succ k ih =>
      intro hk
      rcases ih (by omega) with ⟨i, h1, h2⟩ | h1
      · exact Or.inl ⟨i, by omega, h2⟩
      · by_cases e : rch g P x (k + 1) = rch g P x k
        · exact Or.inl ⟨k, by omega, e⟩
        · right
          have hq : ∃ i, hs (rch g P x (k + 1)) i = true ∧ hs (rch g P x k) i = false := by
            apply Classical.byContradiction
            intro z
            refine e (hs_iff (fun i _ => ⟨fun h1 => ?_, rch_mono g P x k i⟩))
            exact Classical.byContradiction fun z2 => z ⟨i, h1, bool_ff z2⟩
          obtain ⟨i, h3, h4⟩ := hq
          have := pop_lt (rch_mono g P x k) h3 h4
          omega
  rcases key (P - 1) (by omega) with ⟨i, h1, h2⟩ | h1
  · have := rch_fix h2 (P - i)
    rw [show i + (P - i) = P by omega] at this
    rw [this]
    exact h i (by omega)
  · exfalso
    have hc : pop (rch g P x (P - 1)) = fb_ct (hs (rch g P x (P - 1))) P := by
      unfold pop
      rw [show 64 = P + (64 - P) by omega, fb_ct_split]
      have e0 : fb_ct (fun k => hs (rch g P x (P - 1)) (P + k)) (64 - P) = 0 := fb_ct_zero.mpr (fun k _ => bool_ff (fun z => by
        have := rch_in hx hP hg _ _ z
        omega))
      rw [e0, Nat.add_zero]
    have hle := fb_ct_le (hs (rch g P x (P - 1))) P
    have hall := fb_ct_all.mp (show fb_ct (hs (rch g P x (P - 1))) P = P by omega)
    have h5 := hall b hb
    rw [h (P - 1) (by omega)] at h5
    cases h5
theorem sub_test {x : Int64} {P : Nat} (hP : P ≤ 45) : (x &&& (blw P ^^^ (-1))) = 0 ↔ sub x P := by
  rw [zero_iff]
  constructor
  · intro h k hk
    by_cases h6 : k < 64
    · have := h k h6
      rw [hs_and, hs_not _ h6, hs_blw (by omega)] at this
      simp only [show ¬ k < P by omega, decide_false, Bool.not_false, Bool.and_true] at this
      exact this
    · exact hs_big (by omega)
  · intro h k hk
    rw [hs_and, hs_not _ hk, hs_blw (by omega)]
    by_cases h6 : k < P
    · simp [h6]
    · simp [h6, h k (by omega)]
theorem prp_in {g : Nat → Int64} {x : Int64} {P k : Nat} (hP : P ≤ 45) (h : hs (andF g x (blw P) P) k = true) : k < P := by
  have := andF_in h
  rw [hs_blw (by omega)] at this
  simpa using this
theorem nrs_fcong {g g' : Nat → Int64} {L : Nat} (h : ∀ l, l < L → g l = g' l) : nrs g L = nrs g' L := funext fun p => nrs_cong p h
theorem thr_fcong {g g' : Nat → Int64} {L : Nat} (h : ∀ l, l < L → g l = g' l) : thr g L = thr g' L := funext fun p => thr_cong p h
theorem flt_cong {g g' : Nat → Int64} {P L : Nat} (hP : P ≤ 45) (hL : L ≤ 45) (h : ∀ l, l < L → g l = g' l) : flt g P L = flt g' P L := by
  have hw : ∀ i p, i < L → wys g L i p = wys g' L i p := fun i p hi => fb_ct_cong (fun j hj => by rw [h j hj, h i hi])
  refine flt_eq hP hL ?_
  have pr : ∀ i j, noPr g' L i j → noPr g L i j := fun i j z a b h1 h2 h3 => by rw [h a (by omega), h b h2]; exact z a b h1 h2 h3
  have mt : ∀ i p, noMt g' P L i p → noMt g P L i p := fun i p z a q h1 h2 h3 => by rw [h a h1, hw a q h1]; exact z a q h1 h2 h3
  rcases flt_is g' P L with ⟨a1, a2, a3⟩ | ⟨i, j, a1, a2, a3, a4, a5⟩ | ⟨i, p, a1, a2, a3, a4, a5, a6, a7⟩
  · exact Or.inl ⟨a1, pr _ _ a2, mt _ _ a3⟩
  · exact Or.inr (Or.inl ⟨i, j, a1, a2, pr _ _ a3, by rw [h i (by omega), h j a2]; exact a4, a5⟩)
  · exact Or.inr (Or.inr ⟨i, p, a1, a2, pr _ _ a3, mt _ _ a4, by rw [h i a1]; exact a5, by rw [hw i p a1]; exact a6, by rw [hw i p a1]; exact a7⟩)
theorem ord_or {f : Nat → Nat} {n L : Nat} : ord f n L = -9 ∨ (ord f n L = nI (f 0) - 1 ∧ L ≠ 0 ∧ ∀ i, i < n → f i = f 0) := by
  unfold ord
  by_cases h0 : L = 0
  · rw [if_pos h0]; exact Or.inl rfl
  · rw [if_neg h0]
    by_cases c : ∀ i, i < n → f i = f 0
    · rw [if_pos c]; exact Or.inr ⟨rfl, h0, c⟩
    · rw [if_neg c]; exact Or.inl rfl
/-- with lines that are not empty, an order of points is none, or not negative -/
theorem ordP_pos {g : Nat → Int64} {P L : Nat} (hP : P ≤ 45) (hL : L ≤ 45) (hg : gOK g P L) (hne : gNE g L) (h : ord (fun i => pop (thr g L i)) P L ≠ -9) : ∃ t, t < 64 ∧ ord (fun i => pop (thr g L i)) P L = nI t := by
  rcases ord_or (f := fun i => pop (thr g L i)) (n := P) (L := L) with e | ⟨e, h0, ha⟩
  · exact absurd e h
  · obtain ⟨k, hk⟩ := hne 0 (by omega)
    have hkP := hg 0 (by omega) k hk
    have h1 : 0 < pop (thr g L k) := fb_ct_pos.mpr ⟨0, by omega, (hs_thr g k 0 L hL).mpr ⟨by omega, hk⟩⟩
    have h2 := ha k hkP
    have h3 := pop_le (thr g L 0)
    obtain ⟨t, ht⟩ : ∃ t, pop (thr g L 0) = t + 1 := ⟨pop (thr g L 0) - 1, by omega⟩
    refine ⟨t, by omega, ?_⟩
    rw [e, ht, nI_pred]
section
variable {W : AW} {ks lc ms pt : Nat → Int32} {ln : Nat → Int64}
theorem m_points (h : MW W ks lc ln ms pt) {x l fd : Int32} {ask : Int64} {fs : Nat → Int32} {Q : QA} (s : sp_points W x l fd ask fs Q) : w_X7_points x l fd ask fs lc ln pt Q := by
  refine m_lk h s (fun r fd' fs' hr q => bar_no hr q) (fun j hj e z q => bar_yes ?_)
  subst e
  obtain ⟨a1, a2, a3, a4, a5, a6, a7, a8, a9, a10⟩ := MW_at h hj z
  refine ⟨in6 hj, ?_⟩
  rw [cl45 (by omega), a6]
  refine m_inNum (N := vL (W j)) (by omega) rfl (fun i hi e => ⟨fun c => absurd c (by decide), fun _ => ?_⟩) (fun hn => ⟨fun _ => m_meets (k := 2) (by decide) (q.2 hn), fun c => absurd rfl c⟩)
  subst e
  have q1 := q.1 i hi rfl
  refine ⟨ix_in hj (by omega), ix_in hj (by omega), ?_⟩
  rw [ix_c (l := i) hj (by omega) ln, a9 i hi]
  exact m_bits (not45 a2 (a4 i hi)) q1
theorem m_lines (h : MW W ks lc ln ms pt) {x p fd : Int32} {ask : Int64} {fs : Nat → Int32} {Q : QA} (s : sp_lines W x p fd ask fs Q) : w_X7_lines x p fd ask fs lc ln pt Q := by
  refine m_lk h s (fun r fd' fs' hr q => bar_no hr q) (fun j hj e z q => bar_yes ?_)
  subst e
  obtain ⟨a1, a2, a3, a4, a5, a6, a7, a8, a9, a10⟩ := MW_at h hj z
  refine m_isPoint hj a2 a5 (fun i hi e => ⟨fun _ => ?_, fun c => absurd c (by decide)⟩) (fun hn => ⟨fun c => absurd rfl c, fun _ => m_meets (k := 2) (by decide) (q.2 hn)⟩)
  subst e
  have q1 := q.1 i hi rfl
  refine m_through hj a3 (by omega) a6 ?_
  rw [thr_cong i a9]
  exact m_bits (not45 a3 (fun k => thr_in a3)) q1
theorem m_fault (h : MW W ks lc ln ms pt) {x fd : Int32} {ask fa : Int64} {fs : Nat → Int32} {Q : Int32 → Int32 → Int64 → Int64 → (Nat → Int32) → Prop} (s : sp_fault W x fd ask fs (fun r fd ask fs => ∀ fa, Q r fd ask fa fs)) : w_X7_fault x fd ask fa fs lc ln pt Q := by
  refine m_lk h s (fun r fd' fs' hr q => bar_no hr (q fa)) (fun j hj e z q => bar_yes ?_)
  subst e
  obtain ⟨a1, a2, a3, a4, a5, a6, a7, a8, a9, a10⟩ := MW_at h hj z
  refine m_faultOf hj a2 a3 a10 a5 a6 ?_
  have ef : flt (mg ln j) (vP (W j)) (vL (W j)) = fl (W j) := flt_cong a2 a3 a9
  have fb : fl (W j) < 40000 := flt_lt a2 a3
  rw [ef]
  by_cases c : fl (W j) = 0
  · rw [if_pos c, c] at q ⊢
    exact ⟨fun d => absurd (by decide) d, fun _ => q fa⟩
  · rw [if_neg c] at q ⊢
    have c1 : 1 ≤ fl (W j) / 10000 := by
      rcases flt_is (vG (W j)) (vP (W j)) (vL (W j)) with ⟨z, -⟩ | ⟨i, k, -, -, -, -, z⟩ | ⟨i, p, -, -, -, -, -, -, z⟩
      · exact absurd z c
      · show 1 ≤ flt _ _ _ / 10000; rw [z]; omega
      · show 1 ≤ flt _ _ _ / 10000; rw [z]; split <;> omega
    refine ⟨fun _ => q _, fun d => absurd d (nI_ne0 (by omega) (by omega))⟩
theorem m_mean (h : MW W ks lc ln ms pt) {x fd : Int32} {fs : Nat → Int32} {Q : QF} (s : sp_mean W x fd fs Q) : w_X7_mean x fd fs lc ln pt Q := by
  refine m_lk h s (fun r fd' fs' hr q => bar_no hr q) (fun j hj e z q => bar_yes ?_)
  subst e
  obtain ⟨a1, a2, a3, a4, a5, a6, a7, a8, a9, a10⟩ := MW_at h hj z
  have bnd : ∀ i, fb_sm (fun l => pop (vG (W j) l)) i ≤ i * 64 := fun i => by
    induction i with
    | zero => exact Nat.le_refl _
    | succ i ih => rw [fb_sm_succ]; have := pop_le (vG (W j) i); omega
  refine lpf (fun n i s => w_X7_mean_17 (nI j) fd fs lc ln pt Q n (nI s) (nI i)) (fb_sm (fun l => pop (vG (W j) l))) (vL (W j)) 0 (Nat.zero_le _) (fun n => ?_) (fun n i _ hi ih => ?_)
  · refine ⟨in6 hj, ?_⟩
    rw [cl45 (by omega), a6]
    refine pk_le (vL (W j)) (vL (W j)) (fun _ => ⟨in6 hj, ⟨fun c => ⟨in6 hj, c, ?_⟩, fun c => m_meets (k := 4) (by decide) (q.1 ((nI_eq (by omega) (by decide)).mp c))⟩⟩) (fun c => by omega)
    have h0 : vL (W j) ≠ 0 := fun z => c (by rw [z]; rfl)
    have := bnd (vL (W j))
    rw [pk_div (by omega) (by omega) (by omega)]
    exact q.2 h0
  · refine ⟨in6 hj, ?_⟩
    rw [cl45 (by omega), a6]
    refine pk_le (vL (W j)) i (fun c => by omega) (fun _ => ⟨ix_in hj (by omega), ?_⟩)
    rw [ix_c (l := i) hj (by omega) ln, a9 i hi]
    refine m_bits (not45 a2 (a4 i hi)) ?_
    rw [nI_add, nI_1]
    exact ih
theorem m_perp (h : MW W ks lc ln ms pt) {x fd : Int32} {st ask : Int64} {fs : Nat → Int32} {Q : QA} (s : sp_perp W x st fd ask fs Q) : w_X7_perp x st fd ask fs lc ln pt Q := by
  refine m_lk h s (fun r fd' fs' hr q => bar_no hr q) (fun j hj e z q => bar_yes ?_)
  subst e
  obtain ⟨a1, a2, a3, a4, a5, a6, a7, a8, a9, a10⟩ := MW_at h hj z
  refine m_allOf hj a2 a5 ?_
  rw [lgc, sub_test a2]
  refine ⟨fun c => m_perpOf hj a2 a3 a5 a6 ?_, fun c => q.2 c⟩
  rw [nrs_fcong a9]
  exact m_bits (not45 a2 (fun k => prp_in a2)) (q.1 c)
theorem m_span (h : MW W ks lc ln ms pt) {x p r fd : Int32} {ask : Int64} {fs : Nat → Int32} {Q : QA} (s : sp_span W x p r fd ask fs Q) : w_X7_span x p r fd ask fs lc ln pt Q := by
  refine m_lk h s (fun r fd' fs' hr q => bar_no hr q) (fun j hj e z q => bar_yes ?_)
  subst e
  obtain ⟨a1, a2, a3, a4, a5, a6, a7, a8, a9, a10⟩ := MW_at h hj z
  refine m_isPoint hj a2 a5 (fun a ha ea => ⟨fun c => absurd c (by decide), fun _ => ?_⟩) (fun hn => ⟨fun _ => m_meets (k := 2) (by decide) (q.1 (fun z => hn z.1)), fun c => absurd rfl c⟩)
  refine m_isPoint hj a2 a5 (fun b hb eb => ⟨fun _ => ?_, fun c => absurd c (by decide)⟩) (fun hn => ⟨fun c => absurd rfl c, fun _ => m_meets (k := 2) (by decide) (q.1 (fun z => hn z.2))⟩)
  have q1 := q.2 a b ha hb ea eb
  subst ea; subst eb
  refine m_nearTo hj a3 (by omega) a6 ?_
  rw [nrs_cong a a9]
  refine m_has (by omega) (fun c => ⟨fun d => absurd d (by decide), fun _ => q1.1 c⟩) (fun c => ⟨fun _ => m_spanOf hj a2 a3 ha hb a10 a5 a6 ?_, fun d => absurd rfl d⟩)
  rw [nrs_fcong a9]
  exact m_bits (not45 a2 (fun k => spn_in a2)) (q1.2 c)
theorem m_regular (h : MW W ks lc ln ms pt) {x p fd : Int32} {fs : Nat → Int32} {Q : QF} (s : sp_regular W x p fd fs Q) : w_X7_regular x p fd fs lc ln pt Q := by
  refine m_lk h s (fun r fd' fs' hr q => bar_no hr q) (fun j hj e z q => bar_yes ?_)
  subst e
  obtain ⟨a1, a2, a3, a4, a5, a6, a7, a8, a9, a10⟩ := MW_at h hj z
  have hne : gNE (vG (W j)) (vL (W j)) := by
    rcases h.1 j hj with z2 | z2
    · exact absurd z2 z
    · exact z2.2.2.2
  refine m_isPoint hj a2 a5 (fun a ha ea => ⟨fun _ => ?_, fun c => absurd c (by decide)⟩) (fun hn => ⟨fun c => absurd rfl c, fun _ => m_meets (k := 2) (by decide) (q.1 hn)⟩)
  have q1 := q.2 a ha ea
  subst ea
  refine m_orderP hj a2 a1 a3 a5 a6 ?_
  rw [thr_fcong a9]
  by_cases c : ordP (W j) = -9
  · rw [show ord (fun i => pop (thr (vG (W j)) (vL (W j)) i)) (vP (W j)) (vL (W j)) = -9 from c]
    exact ⟨fun d => absurd d (by decide), fun _ => q1.1 c⟩
  · obtain ⟨t, ht, et⟩ := ordP_pos a2 a3 a4 hne c
    have q2 := q1.2 c
    unfold rgv at q2
    rw [show ordP (W j) = nI t from et] at q2
    rw [et]
    refine ⟨fun _ => m_isRegular hj a2 a3 ha a10 a5 a6 (fun d => ?_) (fun d => ?_), fun d => absurd (nI_pos' (by omega)) d⟩
    · rw [nrs_fcong a9] at d
      exact ⟨fun z => absurd z (by decide), fun _ => q2.1 d⟩
    · rw [nrs_fcong a9] at d
      exact ⟨fun _ => q2.2 d, fun z => absurd rfl z⟩
theorem three_eq {g : Nat → Int64} {P L x y z : Nat} (hP : P ≤ 45) (hg : gOK g P L) (hx : x < P) (hy : y < P) (hz : z < P) : andF (nrs g L) ((vshl 1 (nI x) ||| vshl 1 (nI y)) ||| vshl 1 (nI z)) (blw P) P = nrs g L x &&& nrs g L y &&& nrs g L z := by
  refine hs_iff (fun k hk => ?_)
  rw [hs_andF, hs_and, hs_and, Bool.and_eq_true, Bool.and_eq_true, hs_blw (by omega)]
  have e : ∀ i, hs ((vshl 1 (nI x) ||| vshl 1 (nI y)) ||| vshl 1 (nI z)) i = true ↔ (i = x ∨ i = y) ∨ i = z := fun i => by
    rw [hs_or, hs_or, Bool.or_eq_true, Bool.or_eq_true, hs_one (by omega), hs_one (by omega), hs_one (by omega)]
    simp
  constructor
  · rintro ⟨-, h⟩
    exact ⟨⟨h x hx ((e x).mpr (Or.inl (Or.inl rfl))), h y hy ((e y).mpr (Or.inl (Or.inr rfl)))⟩, h z hz ((e z).mpr (Or.inr rfl))⟩
  · rintro ⟨⟨h1, h2⟩, h3⟩
    refine ⟨by have := nrs_in hg hx hP h1; simp [this], fun i hi h => ?_⟩
    rcases (e i).mp h with (rfl | rfl) | rfl
    · exact h1
    · exact h2
    · exact h3
theorem m_centres (h : MW W ks lc ln ms pt) {x p r t fd : Int32} {fs : Nat → Int32} {Q : QF} (s : sp_centres W x p r t fd fs Q) : w_X7_centres x p r t fd fs lc ln pt Q := by
  refine m_lk h s (fun r fd' fs' hr q => bar_no hr q) (fun j hj e z q => bar_yes ?_)
  subst e
  obtain ⟨a1, a2, a3, a4, a5, a6, a7, a8, a9, a10⟩ := MW_at h hj z
  refine m_isPoint hj a2 a5 (fun a ha ea => ⟨fun c => absurd c (by decide), fun _ => ?_⟩) (fun hn => ⟨fun _ => m_meets (k := 2) (by decide) (q.1 (fun z => hn z.1)), fun c => absurd rfl c⟩)
  refine m_isPoint hj a2 a5 (fun b hb eb => ⟨fun c => absurd c (by decide), fun _ => ?_⟩) (fun hn => ⟨fun _ => m_meets (k := 2) (by decide) (q.1 (fun z => hn z.2.1)), fun c => absurd rfl c⟩)
  refine m_isPoint hj a2 a5 (fun d hd ed => ⟨fun _ => ?_, fun c => absurd c (by decide)⟩) (fun hn => ⟨fun c => absurd rfl c, fun _ => m_meets (k := 2) (by decide) (q.1 (fun z => hn z.2.2))⟩)
  have q1 := q.2 a b d ha hb hd ea eb ed
  subst ea; subst eb; subst ed
  refine m_perpOf hj a2 a3 a5 a6 ?_
  rw [nrs_fcong a9, three_eq a2 a4 ha hb hd]
  refine m_bits (not45 a2 (fun k zz => ?_)) q1
  rw [hs_and, hs_and, Bool.and_eq_true, Bool.and_eq_true] at zz
  exact nrs_in a4 ha a2 zz.1.1
theorem m_far (h : MW W ks lc ln ms pt) {x p r fd : Int32} {fs : Nat → Int32} {Q : QF} (s : sp_far W x p r fd fs Q) : w_X7_far x p r fd fs lc ln pt Q := by
  refine m_lk h s (fun r fd' fs' hr q => bar_no hr q) (fun j hj e z q => bar_yes ?_)
  subst e
  obtain ⟨a1, a2, a3, a4, a5, a6, a7, a8, a9, a10⟩ := MW_at h hj z
  refine m_isPoint hj a2 a5 (fun a ha ea => ⟨fun c => absurd c (by decide), fun _ => ?_⟩) (fun hn => ⟨fun _ => m_meets (k := 2) (by decide) (q.1 (fun z => hn z.1)), fun c => absurd rfl c⟩)
  refine m_isPoint hj a2 a5 (fun b hb eb => ⟨fun _ => ?_, fun c => absurd c (by decide)⟩) (fun hn => ⟨fun c => absurd rfl c, fun _ => m_meets (k := 2) (by decide) (q.1 (fun z => hn z.2))⟩)
  have q1 := q.2 a b ha hb ea eb
  subst ea; subst eb
  have hin : ∀ i k, i < vP (W j) → hs (nrs (vG (W j)) (vL (W j)) i) k = true → k < vP (W j) := fun i k hi hk => nrs_in a4 hi a2 hk
  generalize hG : nrs (vG (W j)) (vL (W j)) = G at q1 hin
  have hnear : ∀ i, nrs (mg ln j) (vL (W j)) i = G i := fun i => by rw [nrs_fcong a9, hG]
  generalize vP (W j) = P at *
  have key : ∀ m k, m + k = P + 1 → (∀ i, i < k → hs (rch G P a i) b = false) → ∃ n, w_X7_far_47 (nI j) (nI b) fd fs lc ln pt Q n (rch G P a k) (nI k) := by
    intro m
    induction m with
    | zero =>
      intro k hk hb0
      refine ⟨1, in6 hj, ?_⟩
      rw [cl45 (by omega), a5]
      exact pk_lt P k (fun _ => q1.2 (fun i hi => hb0 i (by omega))) (fun c => by omega)
    | succ m ih =>
      intro k hk hb0
      cases hh : hs (rch G P a k) b
      · obtain ⟨n, hn⟩ := ih (k + 1) (by omega) (fun i hi => by
          by_cases e : i = k
          · rw [e]; exact hh
          · exact hb0 i (by omega))
        refine ⟨n + 1, in6 hj, ?_⟩
        rw [cl45 (by omega), a5]
        refine pk_lt P k (fun c => by omega) (fun _ => m_has (by omega) (fun c => by rw [hh] at c; cases c) (fun _ => ⟨fun _ => ?_, fun c => absurd rfl c⟩))
        refine lpf (fun n' i s => w_X7_far_77 (nI j) (nI b) (rch G P a k) (nI k) fd fs lc ln pt _ Q n' s (nI i)) (orA G (rch G P a k) (rch G P a k)) P 0 (Nat.zero_le _) (fun n' => ?_) (fun n' i _ hi ih => ?_)
        · refine ⟨in6 hj, ?_⟩
          rw [cl45 (by omega), a5]
          refine pk_le P P (fun _ => ?_) (fun c => by omega)
          rw [nI_1]
          exact hn
        · refine ⟨in6 hj, ?_⟩
          rw [cl45 (by omega), a5]
          refine pk_le P i (fun c => by omega) (fun _ => m_has (by omega) (fun c => ?_) (fun c => ?_))
          · refine ⟨fun d => absurd d (by decide), fun _ => m_nearTo hj a3 (by omega) a6 ?_⟩
            rw [hnear]
            simp only [orA, c, if_true] at ih
            show w_X7_far_77 _ _ _ _ _ _ _ _ _ _ Q n' _ _
            rw [nI_1 i]
            exact ih
          · refine ⟨fun _ => ?_, fun d => absurd rfl d⟩
            simp only [orA, c, Bool.false_eq_true, if_false] at ih
            show w_X7_far_77 _ _ _ _ _ _ _ _ _ _ Q n' _ _
            rw [nI_1 i, or0]
            exact ih
      · have hkP : k < P := by
          apply Classical.byContradiction
          intro z2
          have e : k = P := by omega
          subst e
          rw [rch_last ha hb a2 hin (fun i hi => hb0 i hi)] at hh
          cases hh
        refine ⟨1, in6 hj, ?_⟩
        rw [cl45 (by omega), a5]
        exact pk_lt P k (fun c => by omega) (fun _ => m_has (by omega) (fun _ => ⟨fun c => absurd c (by decide), fun _ => q1.1 k hkP hh hb0⟩) (fun c => by rw [hh] at c; cases c))
  exact key (P + 1) 0 rfl (fun i hi => by omega)
end
