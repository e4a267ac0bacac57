theorem at_lN {i j : Nat} (hi : i < 1000) (hj : j < 1000) : (100 : Int64) * (nI i).toInt64 + (nI j).toInt64 = lN (100 * i + j) := by
  rw [nI_l (by omega), nI_l (by omega), show (100 : Int64) = lN 100 from rfl, lN_mul, lN_add]
theorem m_faultOf {j P L : Nat} (hj : j < 6) (hP : P ≤ 45) (hL : L ≤ 45) {lc pt : Nat → Int32} {ln : Nat → Int64} (hg : gOK (mg ln j) P L) (hp : pt j = nI P) (hl : lc j = nI L) {fa : Int64} {Q : Int32 → Int64 → Prop} (h : Q (nI (flt (mg ln j) P L / 10000)) (if flt (mg ln j) P L = 0 then fa else lN (flt (mg ln j) P L % 10000))) : w_X7_faultOf (nI j) fa lc ln pt Q := by
  generalize hgd : mg ln j = g at h hg
  have hc : ∀ c, isF g P L c → Q (nI (c / 10000)) (if c = 0 then fa else lN (c % 10000)) := fun c z => by rw [← flt_eq hP hL z]; exact h
  refine ⟨in6 hj, ?_⟩
  rw [cl45 (by omega), hl]
  have rd : ∀ l, l < L → ln ((45 : Int32) * nI j + nI l).toNatClampNeg = g l := fun l hl' => by rw [ix_c (l := l) hj (by omega) ln, hgd]
  have b45 : ∀ a b, a < L → ∀ k, 45 ≤ k → hs (g a &&& g b) k = false := fun a b ha => not45 hP (fun k z => by
    rw [hs_and, Bool.and_eq_true] at z
    exact hg a ha k z.1)
  -- the second part
  have second : noPr g L L 0 → ∃ n, w_X7_faultOf_86 (nI j) (nI L) fa lc ln pt Q n 0 := by
    intro hpr
    have key : ∀ m i, m + i = L → noMt g P L i 0 → ∃ n, w_X7_faultOf_86 (nI j) (nI L) fa lc ln pt Q n (nI i) := by
      intro m
      induction m with
      | zero =>
        intro i hm ha
        have : i = L := by omega
        subst this
        exact ⟨1, pk_le i i (fun _ => hc 0 (Or.inl ⟨rfl, hpr, ha⟩)) (fun c => by omega)⟩
      | succ m ih =>
        intro i hm ha
        have inner : ∀ (K : Int32 → Prop), (noMt g P L (i + 1) 0 → K (nI (i + 1))) → ∃ n, w_X7_faultOf_94 (nI j) (nI L) (nI i) fa lc ln pt K Q n 0 := by
          intro K hK
          have k2 : ∀ m p, m + p = P → noMt g P L i p → ∃ n, w_X7_faultOf_94 (nI j) (nI L) (nI i) fa lc ln pt K Q n (nI p) := by
            intro m
            induction m with
            | zero =>
              intro p hpp hb
              have : p = P := by omega
              subst this
              refine ⟨1, in6 hj, ?_⟩
              rw [cl45 (by omega), hp]
              refine pk_le p p (fun _ => ?_) (fun c => by omega)
              rw [nI_1]
              exact hK (fun a q h5 h6 h7 => hb a q h5 h6 (by omega))
            | succ m ih2 =>
              intro p hpp hb
              -- behind the count
              have behind : ∀ (K94 : Int32 → Prop), ((hs (g i) p = true ∨ wys g L i p = 1) → K94 (nI (p + 1))) → ∀ mt, (hs (g i) p = false → mt = wys g L i p) → w_X7_faultOf_201 (nI j) (nI L) (nI i) (nI p) (nI mt) fa lc ln pt K K94 Q := by
                intro K94 hK94 mt hmt
                refine ⟨ix_in hj (by omega), ?_⟩
                rw [rd i (by omega)]
                refine m_has (by omega) (fun b => ⟨fun _ => ?_, fun c => absurd c (by decide)⟩) (fun b => ⟨fun c => absurd rfl c, fun _ => ?_⟩)
                · show K94 (nI p + 1)
                  rw [nI_1]; exact hK94 (Or.inl b)
                · have e := hmt b
                  subst e
                  have hwl := wys_le g L i p
                  refine ⟨fun c => ?_, fun c => ⟨fun c2 => ?_, fun c2 => ?_⟩⟩
                  · have h5 : wys g L i p = 1 := (nI_eq (by omega) (by decide)).mp c
                    show K94 (nI p + 1)
                    rw [nI_1]; exact hK94 (Or.inr h5)
                  · have h5 : wys g L i p ≠ 0 := fun z => c2 (by rw [z]; rfl)
                    have h6 : wys g L i p ≠ 1 := fun z => c (by rw [z]; rfl)
                    have hq := hc _ (Or.inr (Or.inr ⟨i, p, by omega, by omega, hpr, hb, b, h6, rfl⟩))
                    rw [if_neg h5, if_neg (by omega), show (30000 + 100 * i + p) / 10000 = 3 by omega, show (30000 + 100 * i + p) % 10000 = 100 * i + p by omega] at hq
                    show Q 3 _
                    rw [at_lN (by omega) (by omega)]
                    exact hq
                  · have h5 : wys g L i p = 0 := (nI_eq (by omega) (by decide)).mp c2
                    have hq := hc _ (Or.inr (Or.inr ⟨i, p, by omega, by omega, hpr, hb, b, by omega, rfl⟩))
                    rw [if_pos h5, if_neg (by omega), show (20000 + 100 * i + p) / 10000 = 2 by omega, show (20000 + 100 * i + p) % 10000 = 100 * i + p by omega] at hq
                    show Q 2 _
                    rw [at_lN (by omega) (by omega)]
                    exact hq
              have count : ∀ (K94 : Int32 → Prop), ((hs (g i) p = true ∨ wys g L i p = 1) → K94 (nI (p + 1))) → ∃ n, w_X7_faultOf_111 (nI j) (nI L) (nI i) (nI p) fa lc ln pt K K94 Q n 0 0 := by
                intro K94 hK94
                cases hb1 : hs (g i) p
                · refine lpf (fun n k s => w_X7_faultOf_111 (nI j) (nI L) (nI i) (nI p) fa lc ln pt K K94 Q n (nI s) (nI k)) (fb_ct (fun q => hs (g q) p && decide (¬ (g q &&& g i) = 0))) L 0 (Nat.zero_le _) (fun n => ?_) (fun n k _ hk ihk => ?_)
                  · exact pk_le L L (fun _ => behind K94 hK94 _ (fun _ => rfl)) (fun c => by omega)
                  · refine pk_le L k (fun c => by omega) (fun _ => ⟨ix_in hj (by omega), ?_⟩)
                    rw [rd i (by omega)]
                    refine m_has (by omega) (fun b => by rw [hb1] at b; cases b) (fun _ => ⟨fun c => absurd rfl c, fun _ => ⟨ix_in hj (by omega), ?_⟩⟩)
                    rw [rd k (by omega)]
                    refine m_has (by omega) (fun b2 => ⟨fun c => absurd c (by decide), fun _ => ⟨ix_in hj (by omega), ix_in hj (by omega), ?_⟩⟩) (fun b2 => ⟨fun _ => ?_, fun c => absurd rfl c⟩)
                    · rw [lgc]
                      refine ⟨fun c => ?_, fun c => ?_⟩
                      · show w_X7_faultOf_111 _ _ _ _ _ _ _ _ _ _ Q n (nI _ + 0) (nI k + 1)
                        rw [nI_1, Int32.add_zero]
                        simp only [fb_ct_succ, b2, c, not_true_eq_false, decide_false, Bool.and_false, Bool.false_eq_true, if_false, Nat.add_zero] at ihk
                        exact ihk
                      · show w_X7_faultOf_111 _ _ _ _ _ _ _ _ _ _ Q n (nI _ + 1) (nI k + 1)
                        rw [nI_1, nI_1]
                        simp only [fb_ct_succ, b2, c, not_false_eq_true, decide_true, Bool.and_true, if_true] at ihk
                        exact ihk
                    · show w_X7_faultOf_111 _ _ _ _ _ _ _ _ _ _ Q n (nI _ + 0) (nI k + 1)
                      rw [nI_1, Int32.add_zero]
                      simp only [fb_ct_succ, b2, Bool.false_and, Bool.false_eq_true, if_false, Nat.add_zero] at ihk
                      exact ihk
                · refine ⟨1, pk_le L 0 (fun c => by omega) (fun _ => ⟨ix_in hj (by omega), ?_⟩)⟩
                  rw [rd i (by omega)]
                  refine m_has (by omega) (fun b => ⟨fun _ => behind K94 hK94 0 (fun z => by rw [b] at z; cases z), fun c => absurd c (by decide)⟩) (fun b => by rw [hb1] at b; cases b)
              by_cases hcc : hs (g i) p = true ∨ wys g L i p = 1
              · obtain ⟨n, hn⟩ := ih2 (p + 1) (by omega) (fun a q h5 h6 h7 => by
                  by_cases e : a = i ∧ q = p
                  · rw [e.1, e.2]; exact hcc
                  · exact hb a q h5 h6 (by omega))
                refine ⟨n + 1, in6 hj, ?_⟩
                rw [cl45 (by omega), hp]
                exact pk_le P p (fun c => by omega) (fun _ => count _ (fun _ => hn))
              · refine ⟨1, in6 hj, ?_⟩
                rw [cl45 (by omega), hp]
                exact pk_le P p (fun c => by omega) (fun _ => count _ (fun z => absurd z hcc))
          exact k2 P 0 rfl ha
        by_cases hd : noMt g P L (i + 1) 0
        · obtain ⟨n, hn⟩ := ih (i + 1) (by omega) hd
          exact ⟨n + 1, pk_le L i (fun c => by omega) (fun _ => inner _ (fun _ => hn))⟩
        · exact ⟨1, pk_le L i (fun c => by omega) (fun _ => inner _ (fun z => absurd z hd))⟩
    exact key L 0 rfl (fun a q _ _ h => by omega)
  -- the first part
  have key : ∀ m i, m + i = L → noPr g L i 0 → ∃ n, w_X7_faultOf_9 (nI j) (nI L) fa lc ln pt Q n (nI i) := by
    intro m
    induction m with
    | zero =>
      intro i hm ha
      have : i = L := by omega
      subst this
      exact ⟨1, pk_le i i (fun _ => second ha) (fun c => by omega)⟩
    | succ m ih =>
      intro i hm ha
      have inner : ∀ (K : Int32 → Prop), (noPr g L (i + 1) 0 → K (nI (i + 1))) → ∃ n, w_X7_faultOf_19 (nI j) (nI L) (nI i) fa lc ln pt K Q n (nI (i + 1)) := by
        intro K hK
        have k2 : ∀ m b, m + b = L → i < b → noPr g L i b → ∃ n, w_X7_faultOf_19 (nI j) (nI L) (nI i) fa lc ln pt K Q n (nI b) := by
          intro m
          induction m with
          | zero =>
            intro b hbb hib hb
            have : b = L := by omega
            subst this
            refine ⟨1, pk_le b b (fun _ => ?_) (fun c => by omega)⟩
            rw [nI_1]
            exact hK (fun a q h5 h6 h7 => hb a q h5 h6 (by omega))
          | succ m ih2 =>
            intro b hbb hib hb
            have hpl := pop_le (g i &&& g b)
            by_cases hcc : pop (g i &&& g b) < 2
            · obtain ⟨n, hn⟩ := ih2 (b + 1) (by omega) (by omega) (fun a q h5 h6 h7 => by
                by_cases e : a = i ∧ q = b
                · rw [e.1, e.2]; exact hcc
                · exact hb a q h5 h6 (by omega))
              refine ⟨n + 1, pk_le L b (fun c => by omega) (fun _ => ⟨ix_in hj (by omega), ix_in hj (by omega), ?_⟩)⟩
              rw [rd i (by omega), rd b (by omega)]
              refine m_bits (b45 i b (by omega)) (pk_le (pop (g i &&& g b)) 1 (fun _ => ?_) (fun c => by omega))
              rw [nI_1]; exact hn
            · refine ⟨1, pk_le L b (fun c => by omega) (fun _ => ⟨ix_in hj (by omega), ix_in hj (by omega), ?_⟩)⟩
              rw [rd i (by omega), rd b (by omega)]
              refine m_bits (b45 i b (by omega)) (pk_le (pop (g i &&& g b)) 1 (fun c => by omega) (fun _ => ?_))
              have hq := hc _ (Or.inr (Or.inl ⟨i, b, hib, by omega, hb, by omega, rfl⟩))
              rw [if_neg (by omega), show (10000 + 100 * i + b) / 10000 = 1 by omega, show (10000 + 100 * i + b) % 10000 = 100 * i + b by omega] at hq
              rw [at_lN (by omega) (by omega)]
              exact hq
        exact k2 (L - (i + 1)) (i + 1) (by omega) (by omega) (fun a b h5 h6 h7 => ha a b h5 h6 (by omega))
      by_cases hd : noPr g L (i + 1) 0
      · obtain ⟨n, hn⟩ := ih (i + 1) (by omega) hd
        refine ⟨n + 1, pk_le L i (fun c => by omega) (fun _ => ?_)⟩
        rw [nI_1]
        exact inner _ (fun _ => by rw [← nI_1]; rw [nI_1]; exact hn)
      · refine ⟨1, pk_le L i (fun c => by omega) (fun _ => ?_)⟩
        rw [nI_1]
        exact inner _ (fun z => absurd z hd)
  exact key L 0 rfl (fun a b _ _ h => by omega)
