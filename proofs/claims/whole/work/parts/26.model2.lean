theorem m_isRegular {j P L x : Nat} (hj : j < 6) (hP : P ≤ 45) (hL : L ≤ 45) (hx : x < P) {lc pt : Nat → Int32} {ln : Nat → Int64} (hg : gOK (mg ln j) P L) (hp : pt j = nI P) (hl : lc j = nI L) {t : Int32} {Q : Int32 → Prop} (ht : reg (nrs (mg ln j) L) P x (t + 1) → Q 1) (hf : ¬ reg (nrs (mg ln j) L) P x (t + 1) → Q 0) : w_X7_isRegular (nI j) (nI x) t lc ln pt Q := by
  refine m_nearTo hj hL (by omega) hl ?_
  have last : ∀ i, i ≤ P → (∃ y, y < i ∧ ¬ (hs (nrs (mg ln j) L x) y = true ∨ nI (pop (spn (nrs (mg ln j) L) P x y)) = t + 1)) → ∃ n, w_X7_isRegular_14 (nI j) (nI x) t (nrs (mg ln j) L x) lc ln pt Q n 0 (nI i) := by
    intro i hi hb
    obtain ⟨y, hy, hb⟩ := hb
    have hq : Q 0 := hf (fun z => hb (z y (by omega)))
    refine ⟨1, in6 hj, ?_⟩
    rw [cl45 (by omega), hp]
    exact pk_le P i (fun _ => ⟨Or.inl rfl, hq⟩) (fun _ => ⟨fun _ => ⟨Or.inl rfl, hq⟩, fun c => absurd rfl c⟩)
  have key : ∀ m i, m + i = P → (∀ y, y < i → hs (nrs (mg ln j) L x) y = true ∨ nI (pop (spn (nrs (mg ln j) L) P x y)) = t + 1) → ∃ n, w_X7_isRegular_14 (nI j) (nI x) t (nrs (mg ln j) L x) lc ln pt Q n 1 (nI i) := by
    intro m
    induction m with
    | zero =>
      intro i hm ha
      have : i = P := by omega
      subst this
      refine ⟨1, in6 hj, ?_⟩
      rw [cl45 (by omega), hp]
      exact pk_le i i (fun _ => ⟨Or.inr rfl, ht ha⟩) (fun c => by omega)
    | succ m ih =>
      intro i hm ha
      by_cases hb : hs (nrs (mg ln j) L x) i = true ∨ nI (pop (spn (nrs (mg ln j) L) P x i)) = t + 1
      · obtain ⟨n, hn⟩ := ih (i + 1) (by omega) (fun y hy => by
          by_cases e : y = i
          · rw [e]; exact hb
          · exact ha y (by omega))
        refine ⟨n + 1, in6 hj, ?_⟩
        rw [cl45 (by omega), hp]
        refine pk_le P i (fun c => by omega) (fun _ => ⟨fun c => absurd c (by decide), fun _ => m_has (by omega) (fun b => ?_) (fun b => ?_)⟩)
        · refine ⟨fun _ => ?_, fun c => absurd c (by decide)⟩
          show w_X7_isRegular_14 _ _ _ _ _ _ _ _ n _ _
          rw [nI_1]; exact hn
        · refine ⟨fun c => absurd rfl c, fun _ => m_spanOf hj hP hL hx (by omega) hg hp hl (m_bits (not45 hP (fun k => spn_in hP)) ⟨fun z => ?_, fun _ => ?_⟩)⟩
          · rcases hb with hb | hb
            · rw [b] at hb; cases hb
            · exact absurd hb z
          · show w_X7_isRegular_14 _ _ _ _ _ _ _ _ n _ _
            rw [nI_1]; exact hn
      · obtain ⟨n, hn⟩ := last (i + 1) (by omega) ⟨i, by omega, hb⟩
        refine ⟨n + 1, in6 hj, ?_⟩
        rw [cl45 (by omega), hp]
        refine pk_le P i (fun c => by omega) (fun _ => ⟨fun c => absurd c (by decide), fun _ => m_has (by omega) (fun b => absurd (Or.inl b) hb) (fun b => ?_)⟩)
        refine ⟨fun c => absurd rfl c, fun _ => m_spanOf hj hP hL hx (by omega) hg hp hl (m_bits (not45 hP (fun k => spn_in hP)) ⟨fun _ => ?_, fun z => absurd (Or.inr z) hb⟩)⟩
        show w_X7_isRegular_14 _ _ _ _ _ _ _ _ n _ _
        rw [nI_1]; exact hn
  obtain ⟨n, hn⟩ := key P 0 rfl (fun y hy => by omega)
  exact ⟨n, hn⟩
/-- what of a set is kept, renumbered: the first n points looked at -/
def clo (x s : Int64) : Nat → Int64
  | 0 => 0
  | i + 1 => if hs s i then (if hs x i then clo x s i ||| vshl 1 (nI (fb_ct (hs s) i)) else clo x s i) else clo x s i
theorem fb_ct_lt (p : Nat → Bool) (n : Nat) : fb_ct p n ≤ n := fb_ct_le p n
theorem m_closed {x s : Int64} {Q : Int64 → Prop} (h : Q (clo x s 45)) : w_X7_closed x s Q := by
  have H : ∃ n, (fun n i (q : Int64) => w_X7_closed_9 x s Q n q (nI (fb_ct (hs s) i)) (nI i)) n 0 (clo x s 0) := by
    refine lpf (fun n i (q : Int64) => w_X7_closed_9 x s Q n q (nI (fb_ct (hs s) i)) (nI i)) (clo x s) 45 0 (Nat.zero_le _) (fun n => ?_) (fun n i _ hi ih => ?_)
    · exact pk_le 45 45 (fun _ => h) (fun c => by omega)
    · refine pk_le 45 i (fun c => by omega) (fun _ => m_has (by omega) (fun b => ?_) (fun b => ?_))
      · refine ⟨fun c => absurd c (by decide), fun _ => m_has (by omega) (fun b2 => ?_) (fun b2 => ?_)⟩
        · refine ⟨fun c => absurd c (by decide), fun _ => ?_⟩
          simp only [clo, b, b2, if_true, fb_ct_succ] at ih
          show w_X7_closed_9 _ _ _ n _ _ _
          rw [nI_1, nI_1]; exact ih
        · refine ⟨fun _ => ?_, fun c => absurd rfl c⟩
          simp only [clo, b, b2, if_true, Bool.false_eq_true, if_false, fb_ct_succ] at ih
          show w_X7_closed_9 _ _ _ n _ _ _
          rw [nI_1, nI_1, or0]; exact ih
      · refine ⟨fun _ => ?_, fun c => absurd rfl c⟩
        simp only [clo, b, Bool.false_eq_true, if_false, fb_ct_succ, Nat.add_zero] at ih
        show w_X7_closed_9 _ _ _ n _ _ _
        rw [nI_1]; exact ih
  exact H
/-- the class's renumbering is the same -/
theorem s_renumbered {x s : Int64} {Q : Int64 → Prop} (h : Q (clo x s 45)) : w_X1_renumbered x s Q := by
  have H : ∃ n, (fun n i (q : Int64) => w_X1_renumbered_9 x s Q n q (nI (fb_ct (hs s) i)) (nI i)) n 0 (clo x s 0) := by
    refine lpf (fun n i (q : Int64) => w_X1_renumbered_9 x s Q n q (nI (fb_ct (hs s) i)) (nI i)) (clo x s) 45 0 (Nat.zero_le _) (fun n => ?_) (fun n i _ hi ih => ?_)
    · exact pk_le 45 45 (fun _ => h) (fun c => by omega)
    · refine pk_le 45 i (fun c => by omega) (fun _ => s_has (by omega) (fun b => ?_) (fun b => ?_))
      · refine ⟨fun c => absurd c (by decide), fun _ => s_has (by omega) (fun b2 => ?_) (fun b2 => ?_)⟩
        · refine ⟨fun c => absurd c (by decide), fun _ => ?_⟩
          simp only [clo, b, b2, if_true, fb_ct_succ] at ih
          show w_X1_renumbered_9 _ _ _ n _ _ _
          rw [nI_1, nI_1]; exact ih
        · refine ⟨fun _ => ?_, fun c => absurd rfl c⟩
          simp only [clo, b, b2, if_true, Bool.false_eq_true, if_false, fb_ct_succ] at ih
          show w_X1_renumbered_9 _ _ _ n _ _ _
          rw [nI_1, nI_1]; exact ih
      · refine ⟨fun _ => ?_, fun c => absurd rfl c⟩
        simp only [clo, b, Bool.false_eq_true, if_false, fb_ct_succ, Nat.add_zero] at ih
        show w_X1_renumbered_9 _ _ _ n _ _ _
        rw [nI_1]; exact ih
  exact H
theorem clo_in {x s : Int64} {k : Nat} : ∀ n, n ≤ 45 → hs (clo x s n) k = true → k < fb_ct (hs s) n
  | 0, _, h => by rw [clo, hs_0] at h; cases h
  | n + 1, hn, h => by
    have ih := clo_in (x := x) (s := s) (k := k) n (by omega)
    have hl := fb_ct_le (hs s) n
    rw [clo] at h
    rw [fb_ct_succ]
    cases hb : hs s n
    · rw [hb] at h
      simp only [Bool.false_eq_true, if_false] at h ⊢
      exact ih h
    · rw [hb] at h
      simp only [if_true] at h ⊢
      cases hc : hs x n
      · rw [hc] at h
        simp only [Bool.false_eq_true, if_false] at h
        have := ih h
        omega
      · rw [hc] at h
        simp only [if_true, hs_or, Bool.or_eq_true] at h
        rcases h with h | h
        · have := ih h
          omega
        · rw [hs_one (by omega)] at h
          have : k = fb_ct (hs s) n := by simpa using h
          omega
/-- a new world's rows, put into a place -/
def kpF (ln r : Nat → Int64) (j : Nat) (i : Nat) : Nat → Int64 := fun k => if 45 * j ≤ k ∧ k < 45 * j + i then r (k - 45 * j) else ln k
theorem kpF_0 (ln r : Nat → Int64) (j : Nat) : kpF ln r j 0 = ln := by
  funext k
  unfold kpF
  rw [if_neg (by omega)]
theorem kpF_s (ln r : Nat → Int64) (j i : Nat) : vp_updL (kpF ln r j i) (45 * j + i) (r i) = kpF ln r j (i + 1) := by
  funext k
  unfold vp_updL kpF
  by_cases e : k = 45 * j + i
  · subst e
    rw [if_pos rfl, if_pos (by omega), show 45 * j + i - 45 * j = i by omega]
  · rw [if_neg e]
    by_cases c : 45 * j ≤ k ∧ k < 45 * j + i
    · rw [if_pos c, if_pos (by omega)]
    · rw [if_neg c, if_neg (by omega)]
theorem mg_kpF_same {ln r : Nat → Int64} {j L l : Nat} (h : l < L) : mg (kpF ln r j L) j l = r l := by
  unfold mg kpF
  rw [if_pos (by omega), show 45 * j + l - 45 * j = l by omega]
theorem mg_kpF_ne {ln r : Nat → Int64} {j i L l : Nat} (hL : L ≤ 45) (hl : l < 45) (h : i ≠ j) : mg (kpF ln r j L) i l = mg ln i l := by
  unfold mg kpF
  rw [if_neg]
  intro z
  rcases Nat.lt_or_gt_of_ne h with h | h <;> omega
theorem m_keep {j L : Nat} (hj : j < 6) (hL : L ≤ 45) {kd tg np : Int32} {ks lc ms pt : Nat → Int32} {ln nr : Nat → Int64} {Q : Int32 → (Nat → Int32) → (Nat → Int32) → (Nat → Int64) → (Nat → Int32) → (Nat → Int32) → Prop} (h : Q np (upd ks j kd) (upd lc j (nI L)) (kpF ln nr j L) (upd ms j tg) (upd pt j np)) : w_X7_keep (nI j) kd tg np (nI L) ks lc ln ms nr pt Q := by
  refine ⟨in6 hj, in6 hj, in6 hj, in6 hj, ?_⟩
  rw [cl45 (by omega)]
  have H : ∃ n, (fun n i (q : Nat → Int64) => w_X7_keep_37 (nI j) np (nI L) (upd ks j kd) (upd lc j (nI L)) (upd ms j tg) nr (upd pt j np) Q n (nI i) q) n 0 (kpF ln nr j 0) := by
    refine lpf (fun n i (q : Nat → Int64) => w_X7_keep_37 (nI j) np (nI L) (upd ks j kd) (upd lc j (nI L)) (upd ms j tg) nr (upd pt j np) Q n (nI i) q) (kpF ln nr j) L 0 (Nat.zero_le _) (fun n => ?_) (fun n i _ hi ih => ?_)
    · exact pk_le L L (fun _ => h) (fun c => by omega)
    · refine pk_le L i (fun c => by omega) (fun _ => ⟨vp_in_nI (by omega) (by decide), ix_in hj (by omega), ?_⟩)
      rw [ix_e, nI_clamp (n := 45 * j + i) (by omega), cl45 (by omega), nI_1, kpF_s]
      exact ih
  rw [kpF_0] at H
  exact H
theorem m_add {x : Int64} {n : Nat} (hn : n < 120) {nr : Nat → Int64} {Q : Int32 → (Nat → Int64) → Prop} (h : Q (nI (n + 1)) (vp_updL nr n x)) : w_X7_add x (nI n) nr Q := by
  refine ⟨vp_in_nI hn (by decide), ?_⟩
  rw [cl45 (by omega), nI_1]
  exact h
