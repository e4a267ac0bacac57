def uSw (u : Nat → Nat) (f k : Nat) : Nat → Nat := fun i => if i = f then u k else if i = k then u f else u i
def uCl (u : Nat → Nat) (j v : Nat) : Nat → Nat := fun i => if i = j then v else u i
section
variable {W : AW} {ks lc ms pt : Nat → Int32} {ln : Nat → Int64} {r n P j : Nat}
theorem m_clearRows (hr : isR r) (hn : n ≤ 45) (hP : P ≤ 45) {A : MX} {u : Nat → Nat} {k p : Nat} (hk : k < n) (hp : p < P) (hA : A k p ≠ 0) {fd : Int32} {fs : Nat → Int32} {x6 : Int32} {K : Int32 → Int32 → (Nat → Int32) → Prop} {Q : Int32 → Int32 → (Nat → Int32) → (Nat → Int32) → Prop} {T : Nat → Int32} (h : Rr r n P A u T p) (q : ∀ T u, Rr r n P (clR r A k p n) u T (p + 1) → K (nI (k + 1)) (nI p + 1) T) : ∃ m, w_X7_rank_182 x6 (nI r) (nI n) (nI k) (nI p) fd fs lc ln pt K Q m (nI k + 1) T := by
  obtain ⟨r1, r2⟩ := isR_le hr
  rw [nI_1]
  refine pk_loop (fun m i (T : Nat → Int32) => w_X7_rank_182 x6 (nI r) (nI n) (nI k) (nI p) fd fs lc ln pt K Q m (nI i) T) (fun j T => k + 1 ≤ j ∧ ∃ u, ∀ i, i < n → 1 ≤ u i ∧ u i < r ∧ ∀ c, p ≤ c → c < P → T (45 * i + c) = nI (u i * clR r A k p j i c % r) ∧ clR r A k p j i c < r) n (k + 1) T (by omega) ⟨Nat.le_refl _, u, fun i hi => ?_⟩ (fun m T hT => ?_) (fun m j T hj hT ih => ?_)
  · obtain ⟨h1, h2, h3⟩ := h i hi
    refine ⟨h1, h2, fun c h4 h5 => ?_⟩
    unfold clR
    rw [if_neg (by omega)]
    exact h3 c h4 h5
  · obtain ⟨-, u, hu⟩ := hT
    refine pk_le n n (fun _ => ?_) (fun c => by omega)
    show K (nI k + 1) (nI p + 1) T
    rw [nI_1 k]
    refine q T u (fun i hi => ?_)
    obtain ⟨h1, h2, h3⟩ := hu i hi
    exact ⟨h1, h2, fun c h4 h5 => h3 c (by omega) h5⟩
  · obtain ⟨hkj, u, hu⟩ := hT
    obtain ⟨k1, k2, k3⟩ := hu k hk
    obtain ⟨j1, j2, j3⟩ := hu j hj
    have ck : ∀ c, clR r A k p j k c = A k c := fun c => by unfold clR; rw [if_neg (by omega)]
    have cj : ∀ c, clR r A k p j j c = A j c := fun c => by unfold clR; rw [if_neg (by omega)]
    simp only [ck] at k3
    simp only [cj] at j3
    refine pk_le n j (fun c => by omega) (fun _ => ?_)
    have hml : ∀ x, x % r < r := fun x => Nat.mod_lt _ (by omega)
    refine m_clear hr hP (by omega) (by omega) (by omega) hp (k3 p (Nat.le_refl _) hp).1 (j3 p (Nat.le_refl _) hp).1 (hml _) (hml _) (X := fun c => u j * A j c % r) (Y := fun c => u k * A k c % r) (fun c h1 h2 => ⟨(j3 c h1 h2).1, hml _⟩) (fun c h1 h2 => ⟨(k3 c h1 h2).1, hml _⟩) (fun T' t1 t2 => ?_)
    show w_X7_rank_182 _ _ _ _ _ _ _ _ _ _ K Q m (nI j + 1) T'
    rw [nI_1]
    refine ih T' ⟨by omega, uCl u j (if A j p = 0 then u j else u j * u k * A k p % r), fun i hi => ?_⟩
    unfold uCl
    by_cases ei : i = j
    · subst ei
      rw [if_pos rfl]
      have hlt := (j3 p (Nat.le_refl _) hp).2
      have hklt := (k3 p (Nat.le_refl _) hp).2
      have hU := uOK_r hr (u i) j2 (u k) k2 (A k p) hklt j1 k1 (by omega)
      have hclr : ∀ c, p ≤ c → clR r A k p (i + 1) i c = nwA r (A i c) (A i p) (A k p) (A k c) := fun c hc => by
        unfold clR; rw [if_pos (by omega)]
      have zz : (u i * A i p % r = 0) ↔ A i p = 0 := ⟨fun z => uz_r hr j2 j1 hlt z, fun z => by rw [z, Nat.mul_zero, Nat.zero_mod]⟩
      by_cases a0 : A i p = 0
      · rw [if_pos a0]
        refine ⟨j1, j2, fun c h1 h2 => ?_⟩
        rw [hclr c h1, t2 c h1 h2, if_pos (zz.mpr a0)]
        have e : nwA r (A i c) (A i p) (A k p) (A k c) = A i c := by
          unfold nwA
          rw [a0, Nat.zero_mul, Nat.zero_mod, Nat.zero_mul, Nat.mul_zero, Nat.add_zero, Nat.mod_eq_of_lt (j3 c h1 h2).2]
        rw [e]
        exact ⟨rfl, (j3 c h1 h2).2⟩
      · rw [if_neg a0]
        refine ⟨hU.1, hml _, fun c h1 h2 => ?_⟩
        rw [hclr c h1, t2 c h1 h2, if_neg (fun z => a0 (zz.mp z))]
        refine ⟨?_, nwA_lt hr⟩
        rw [hU.2 (A i c) (j3 c h1 h2).2 (A i p) hlt (A k c) (k3 c h1 h2).2]
    · rw [if_neg ei]
      obtain ⟨i1, i2, i3⟩ := hu i hi
      refine ⟨i1, i2, fun c h1 h2 => ?_⟩
      have e : clR r A k p (j + 1) i c = clR r A k p j i c := by
        unfold clR
        by_cases e2 : k < i ∧ i < j ∧ p ≤ c
        · rw [if_pos e2, if_pos (by omega)]
        · rw [if_neg e2, if_neg (by omega)]
      rw [e, t1 i (by omega) ei c (by omega)]
      exact i3 c h1 h2
theorem m_rankLoop (hr : isR r) (hn : n ≤ 45) (hP : P ≤ 45) (hj : j < 6) (hp : pt j = nI P) {fd : Int32} {fs : Nat → Int32} {Q : Int32 → Int32 → (Nat → Int32) → (Nat → Int32) → Prop} : ∀ (m : Nat) (A : MX) (k p : Nat) (T : Nat → Int32) (u : Nat → Nat), m + p = P → k ≤ n → Rr r n P A u T p → (∀ T, Q (nI (rkA r n m A k p)) fd fs T) → w_X7_rank_117 (nI j) (nI r) (nI n) fd fs lc ln pt Q (m + 1) (nI k) (nI p) T
  | 0, A, k, p, T, u, h1, h2, h3, q => by
    have : p = P := by omega
    subst this
    refine ⟨in6 hj, ?_⟩
    rw [cl45 (by omega), hp]
    exact pk_le p p (fun _ => q T) (fun c => by omega)
  | m + 1, A, k, p, T, u, h1, h2, h3, q => by
    obtain ⟨r1, r2⟩ := isR_le hr
    refine ⟨in6 hj, ?_⟩
    rw [cl45 (by omega), hp]
    refine pk_le P p (fun c => by omega) (fun _ => ?_)
    have hweak : Rr r n P A u T (p + 1) := fun i hi => by
      obtain ⟨a1, a2, a3⟩ := h3 i hi
      exact ⟨a1, a2, fun c h4 h5 => a3 c (by omega) h5⟩
    -- a row to lead: the first that is not 0 there
    obtain ⟨f1, f2⟩ := fsR_le (A := A) (p := p) h2
    have search : w_X7_rank_161 (nI j) (nI r) (nI n) (nI k) (nI p) (nI (fsR A p n k)) fd fs lc ln pt T (w_X7_rank_117 (nI j) (nI r) (nI n) fd fs lc ln pt Q (m + 1)) Q → ∃ N, w_X7_rank_132 (nI j) (nI r) (nI n) (nI k) (nI p) fd fs lc ln pt T (w_X7_rank_117 (nI j) (nI r) (nI n) fd fs lc ln pt Q (m + 1)) Q N (nI k) := by
      intro z
      refine lpq (fun N i => w_X7_rank_132 (nI j) (nI r) (nI n) (nI k) (nI p) fd fs lc ln pt T (w_X7_rank_117 (nI j) (nI r) (nI n) fd fs lc ln pt Q (m + 1)) Q N (nI i)) (fsR A p n k) k f1 (fun N => ?_) (fun N i g1 g2 ih => ?_)
      · refine pk_le n (fsR A p n k) (fun _ => z) (fun c => ⟨tx_in (by omega) (by omega), ?_⟩)
        rw [tx_c (by omega) (by omega)]
        obtain ⟨a1, a2, a3⟩ := h3 _ c
        have a4 := a3 p (Nat.le_refl _) (by omega)
        have hml := Nat.mod_lt (u (fsR A p n k) * A (fsR A p n k) p) (show 0 < r by omega)
        rw [a4.1]
        refine ⟨fun _ => z, fun d => ?_⟩
        have := uz_r hr a2 a1 a4.2 ((nI_eq (by omega) (by decide)).mp d)
        exact absurd this (fsR_yes h2 c)
      · refine pk_le n i (fun c => by omega) (fun c => ⟨tx_in (by omega) (by omega), ?_⟩)
        rw [tx_c (by omega) (by omega)]
        obtain ⟨a1, a2, a3⟩ := h3 _ c
        have a4 := a3 p (Nat.le_refl _) (by omega)
        rw [a4.1, fsR_no g1 g2, Nat.mul_zero, Nat.zero_mod]
        refine ⟨fun d => absurd rfl d, fun _ => ?_⟩
        rw [nI_1]; exact ih
    refine search ?_
    rw [rkA] at q
    by_cases c1 : fsR A p n k = n
    · refine pk_le n (fsR A p n k) (fun _ => ?_) (fun c => by omega)
      have hN := m_rankLoop hr hn hP hj hp (fd := fd) (fs := fs) (Q := Q) m A k (p + 1) T u (by omega) h2 hweak (fun T => by
        have := q T
        by_cases c0 : n ≤ k
        · rw [if_pos c0] at this
          rw [rkA_le r n m A k (p + 1) c0]; exact this
        · rw [if_neg c0, if_pos c1] at this
          exact this)
      show w_X7_rank_117 _ _ _ _ _ _ _ _ Q (m + 1) (nI k) (nI p + 1) T
      rw [nI_1]; exact hN
    · have hf : fsR A p n k < n := by omega
      have c0 : ¬ n ≤ k := by omega
      rw [if_neg c0, if_neg c1] at q
      have hfy := fsR_yes h2 hf
      refine pk_le n (fsR A p n k) (fun c => by omega) (fun _ => m_swap (by omega) (by omega) (fun T1 t1 => ?_))
      generalize hff : fsR A p n k = f at *
      refine m_clearRows (A := swR A f k) (u := uSw u f k) hr hn hP (by omega) (by omega) ?_ ?_ (fun T2 u2 hr2 => ?_)
      · have : swR A f k k p = A f p := by
          unfold swR
          by_cases e : k = f
          · rw [if_pos e, ← e]
          · rw [if_neg e, if_pos rfl]
        rw [this]; exact hfy
      · intro i hi
        unfold uSw
        by_cases e1 : i = f
        · subst e1
          obtain ⟨a1, a2, a3⟩ := h3 k (by omega)
          refine ⟨by rw [if_pos rfl]; exact a1, by rw [if_pos rfl]; exact a2, fun c h4 h5 => ?_⟩
          rw [t1 i (by omega) c (by omega), if_pos rfl, if_pos rfl]
          unfold swR
          rw [if_pos rfl]
          exact a3 c h4 h5
        · by_cases e2 : i = k
          · subst e2
            obtain ⟨a1, a2, a3⟩ := h3 f (by omega)
            refine ⟨by rw [if_neg e1, if_pos rfl]; exact a1, by rw [if_neg e1, if_pos rfl]; exact a2, fun c h4 h5 => ?_⟩
            rw [t1 i (by omega) c (by omega), if_neg e1, if_pos rfl, if_neg e1, if_pos rfl]
            unfold swR
            rw [if_neg e1, if_pos rfl]
            exact a3 c h4 h5
          · obtain ⟨a1, a2, a3⟩ := h3 i hi
            refine ⟨by rw [if_neg e1, if_neg e2]; exact a1, by rw [if_neg e1, if_neg e2]; exact a2, fun c h4 h5 => ?_⟩
            rw [t1 i (by omega) c (by omega), if_neg e1, if_neg e2, if_neg e1, if_neg e2]
            unfold swR
            rw [if_neg e1, if_neg e2]
            exact a3 c h4 h5
      · have hN := m_rankLoop hr hn hP hj hp (fd := fd) (fs := fs) (Q := Q) m _ (k + 1) (p + 1) T2 u2 (by omega) (by omega) hr2 q
        rw [nI_1]
        exact hN
theorem m_rank (h : MW W ks lc ln ms pt) {x rr fd : Int32} {fs tb : Nat → Int32} {Q : Int32 → Int32 → (Nat → Int32) → (Nat → Int32) → Prop} (s : sp_rank W x rr fd fs (fun r fd fs => ∀ tb, Q r fd fs tb)) : w_X7_rank x rr fd fs lc ln pt tb Q := by
  have main : ∀ r, isR r → rr = nI r → w_X7_rank_17 x rr fd fs lc ln pt tb Q := by
    intro r hr e
    subst e
    obtain ⟨r1, r2⟩ := isR_le hr
    refine m_lk h (s.2 r hr rfl) (fun r fd' fs' hr q => bar_no hr (q _)) (fun j hj e z q => bar_yes ⟨by rw [e]; exact in6 hj, ?_⟩)
    subst e
    obtain ⟨a1, a2, a3, a4, a5, a6, a7, a8, a9, a10⟩ := MW_at h hj z
    rw [cl45 (by omega), a6]
    refine pk_loop (fun m i (s : Nat → Int32) => w_X7_rank_40 (nI j) (nI r) (nI (vL (W j))) fd fs lc ln pt Q m (nI i) s) (fun i s => ∀ k, k < i → ∀ c, c < vP (W j) → s (45 * k + c) = nI (A0 (vG (W j)) k c)) (vL (W j)) 0 tb (Nat.zero_le _) (fun j hj => absurd hj (Nat.not_lt_zero _)) (fun m s hs' => ?_) (fun m i s hi hs' ih => ?_)
    · refine pk_le (vL (W j)) (vL (W j)) (fun _ => ⟨vP (W j) + 1, ?_⟩) (fun c => by omega)
      refine m_rankLoop hr a3 a2 hj a5 (vP (W j)) (A0 (vG (W j))) 0 0 s (fun _ => 1) (by omega) (Nat.zero_le _) (fun i hi => ⟨Nat.le_refl _, (show 1 < r by omega), fun c _ h5 => ⟨?_, A0_lt hr⟩⟩) q
      rw [hs' i hi c h5, Nat.one_mul, Nat.mod_eq_of_lt (A0_lt hr)]
    · refine pk_le (vL (W j)) i (fun c => by omega) (fun _ => ?_)
      refine pk_loop (fun m2 p (s : Nat → Int32) => w_X7_rank_50 (nI j) (nI r) (nI (vL (W j))) (nI i) fd fs lc ln pt (w_X7_rank_40 (nI j) (nI r) (nI (vL (W j))) fd fs lc ln pt Q m) Q m2 (nI p) s) (fun p s => (∀ k, k < i → ∀ c, c < vP (W j) → s (45 * k + c) = nI (A0 (vG (W j)) k c)) ∧ ∀ c, c < p → s (45 * i + c) = nI (A0 (vG (W j)) i c)) (vP (W j)) 0 s (Nat.zero_le _) ⟨hs', fun c hc => absurd hc (Nat.not_lt_zero _)⟩ (fun m2 s h2 => ?_) (fun m2 p s hp h2 ih2 => ?_)
      · refine ⟨in6 hj, ?_⟩
        rw [cl45 (by omega), a5]
        refine pk_le (vP (W j)) (vP (W j)) (fun _ => ?_) (fun c => by omega)
        rw [nI_1]
        refine ih s (fun k hk c hc => ?_)
        by_cases e : k = i
        · rw [e]; exact h2.2 c hc
        · exact h2.1 k (by omega) c hc
      · refine ⟨in6 hj, ?_⟩
        rw [cl45 (by omega), a5]
        refine pk_le (vP (W j)) p (fun c => by omega) (fun _ => ⟨ix_in hj (by omega), ?_⟩)
        rw [ix_c (l := i) hj (by omega) ln, a9 i hi]
        have go : ∀ x : Int32, x = nI (A0 (vG (W j)) i p) → w_X7_rank_98 (nI j) (nI r) (nI (vL (W j))) (nI i) (nI p) ((45 * nI i) + nI p) x fd fs lc ln pt s (w_X7_rank_40 (nI j) (nI r) (nI (vL (W j))) fd fs lc ln pt Q m) (w_X7_rank_50 (nI j) (nI r) (nI (vL (W j))) (nI i) fd fs lc ln pt (w_X7_rank_40 (nI j) (nI r) (nI (vL (W j))) fd fs lc ln pt Q m) Q m2) Q := fun x hx => by
          refine ⟨tx_in (by omega) (by omega), ?_⟩
          rw [tx_c (by omega) (by omega), nI_1, hx]
          refine ih2 _ ⟨fun k hk c hc => by rw [upd_ne (by omega)]; exact h2.1 k hk c hc, fun c hc => ?_⟩
          by_cases e : c = p
          · rw [e, upd_same]
          · rw [upd_ne (by omega)]; exact h2.2 c (by omega)
        refine m_has (by omega) (fun b => ⟨fun c => absurd c (by decide), fun _ => go 1 ?_⟩) (fun b => ⟨fun _ => go 0 ?_, fun c => absurd rfl c⟩)
        · unfold A0; rw [if_pos b]; rfl
        · unfold A0; rw [if_neg (by rw [b]; simp)]; rfl
  refine ⟨fun c => main 2 (Or.inl rfl) c, fun c => ⟨fun c => main 3 (Or.inr (Or.inl rfl)) c, fun c2 => ⟨fun c => main 5 (Or.inr (Or.inr rfl)) c, fun c3 => s.1 ?_ _⟩⟩⟩
  rintro ⟨r, hr, e⟩
  rcases hr with rfl | rfl | rfl
  · exact c e
  · exact c2 e
  · exact c3 e
end
