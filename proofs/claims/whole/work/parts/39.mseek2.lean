theorem m_nextStep {G N n : Nat} {ch mt bars chs hits : Nat → Int64} (hc : chM G N ch mt) (hpar : mPar G N ch mt bars chs hits) (hn : n ≤ 100000) {s : SS} (hi : sInv G N mt s) (ht : st s ≤ n) {barred met : Nat → Int64} {taken : Nat → Int32} {tk : Nat → Nat} (h : mRel G N ch mt s barred met taken tk) (hl : 1 ≤ sl s) (hM : sM s (sl s - 1) ≠ blw G) {Q : Int32 → Int32 → Int32 → (Nat → Int64) → (Nat → Int64) → (Nat → Int32) → Prop} (k1 : sC s (sl s - 1) = 0 → ∃ m, w_X7_next_43 (nI n) (nI N) (nI G) bars chs hits Q m (nI (st s)) (nI (sl s - 1) - 1) barred met taken) (k2 : sC s (sl s - 1) ≠ 0 → st s = n → Q (-6) (nI (st s)) (nI (sl s) - 1) barred met taken) (k3 : sC s (sl s - 1) ≠ 0 → st s ≠ n → ∀ barred met taken tk, mRel G N ch mt (psS G ch mt s) barred met taken tk → ∃ m, w_X7_next_43 (nI n) (nI N) (nI G) bars chs hits Q m (nI (st s + 1)) (nI (sl s + 1) - 1) barred met taken) : ∃ m, w_X7_next_43 (nI n) (nI N) (nI G) bars chs hits Q m (nI (st s)) (nI (sl s) - 1) barred met taken := by
  have h46 := sInv_l hc hi
  obtain ⟨a1, a2, a3, a4, a5, a6, a7, a8⟩ := h (sl s - 1) (by omega)
  have a8 := a8 hM
  have hgM := (hi (sl s - 1) (by omega)).1
  have hG := hc.1
  have hN := hc.2.1
  obtain ⟨g1, g2, g3⟩ := gl_is hG hgM hM
  have e0 : nI (sl s) - 1 = nI (sl s - 1) := nI_sub1 hl
  -- a thing that may be taken, as the reference asks
  have cand : ∀ k, k < N → hs (ch (gl G (sM s (sl s - 1)))) k = true → (hs (barred (sl s - 1)) k = false ↔ (mt k &&& sM s (sl s - 1)) = 0) := fun k hk hck => by
    have hgk := (hc.2.2.1 _ g1 k hck).2
    constructor
    · intro z
      rw [and_zero]
      intro g hg64 hg
      refine bool_ff (fun z2 => ?_)
      obtain ⟨q, hq, z3⟩ := (a7 g).mp z2
      have : hs (barred (sl s - 1)) k = true := (a5 k hk).mpr ⟨q, hq, Or.inr (fun z4 => by
        have := and_zero.mp z4 g hg64 z3
        rw [hg] at this; cases this)⟩
      rw [z] at this; cases this
    · intro z
      refine bool_ff (fun z2 => ?_)
      obtain ⟨q, hq, z3⟩ := (a5 k hk).mp z2
      rcases z3 with z3 | z3
      · have : hs (sM s (sl s - 1)) (gl G (sM s (sl s - 1))) = true := (a7 _).mpr ⟨q, hq, by rw [← z3]; exact hgk⟩
        rw [g2] at this; cases this
      · refine z3 (and_zero.mpr (fun g hg64 hg => bool_ff (fun z5 => ?_)))
        have h5 := and_zero.mp z g hg64 z5
        rw [(a7 g).mpr ⟨q, hq, hg⟩] at h5; cases h5
  -- behind the search for the next
  have body : ∃ m, w_X7_next_43s (nI n) (nI N) (nI G) bars chs hits Q (w_X7_next_43 (nI n) (nI N) (nI G) bars chs hits Q m) (nI (st s)) (nI (sl s) - 1) barred met taken := by
    have pre : ∀ (K : Int32 → Int32 → (Nat → Int64) → (Nat → Int64) → (Nat → Int32) → Prop) (z : Nat), z ≤ N → tk (sl s - 1) ≤ z → (∀ k, tk (sl s - 1) ≤ k → k < z → hs (sC s (sl s - 1)) k = false) → (z = N ∨ hs (sC s (sl s - 1)) z = true) → w_X7_next_124 (nI n) (nI z) (nI (st s)) (nI N) (nI G) (nI (sl s - 1)) barred bars chs hits met taken K Q → w_X7_next_43s (nI n) (nI N) (nI G) bars chs hits Q K (nI (st s)) (nI (sl s) - 1) barred met taken := by
      intro K z hz htz hno hyes hq
      rw [e0]
      refine ⟨fun c => absurd c (nI_pos (by omega)), fun _ => m_goalAt hG (by omega) a1 hgM (fun c => absurd c hM) (fun _ => ⟨fun _ => ⟨in46 (by omega), ?_⟩, fun c => absurd ((nI_eq (by omega) (by omega)).mp c) (by omega)⟩)⟩
      rw [cl45 (by omega), a2, Int32.sub_add_cancel]
      refine lpq (fun n1 k => w_X7_next_78 (nI n) (nI (gl G (sM s (sl s - 1)))) (nI (st s)) (nI N) (nI G) (nI (sl s - 1)) barred bars chs hits met taken K Q n1 (nI k)) z (tk (sl s - 1)) htz (fun n1 => ?_) (fun n1 k h1 h2 ih => ?_)
      · refine pk_le N z (fun _ => hq) (fun c => ⟨in45 (by omega), ?_⟩)
        rw [cl45 (by omega), hpar.2.1 _ g1]
        have hcz : hs (sC s (sl s - 1)) z = true := by
          rcases hyes with hy | hy
          · omega
          · exact hy
        obtain ⟨-, b2, b3, b4⟩ := (a8 z).mp hcz
        refine m_has (by omega) (fun _ => ⟨fun d => absurd d (by decide), fun _ => ⟨in47 (by omega), ?_⟩⟩) (fun b => by rw [b3] at b; cases b)
        rw [cl45 (by omega)]
        exact m_has (by omega) (fun b => by rw [(cand z b2 b3).mpr b4] at b; cases b) (fun _ => ⟨fun _ => hq, fun d => absurd rfl d⟩)
      · refine pk_le N k (fun c => by omega) (fun _ => ⟨in45 (by omega), ?_⟩)
        rw [cl45 (by omega), hpar.2.1 _ g1]
        have hck := hno k h1 h2
        refine m_has (by omega) (fun b => ⟨fun d => absurd d (by decide), fun _ => ⟨in47 (by omega), ?_⟩⟩) (fun b => ⟨fun _ => ?_, fun d => absurd rfl d⟩)
        · rw [cl45 (by omega)]
          refine m_has (by omega) (fun _ => ⟨fun d => absurd d (by decide), fun _ => ?_⟩) (fun b2 => ?_)
          · show w_X7_next_78 _ _ _ _ _ _ _ _ _ _ _ _ K Q n1 (nI k + 1)
            rw [nI_1]; exact ih
          · rw [(a8 k).mpr ⟨h1, by omega, b, (cand k (by omega) b).mp b2⟩] at hck
            cases hck
        · show w_X7_next_78 _ _ _ _ _ _ _ _ _ _ _ _ K Q n1 (nI k + 1)
          rw [nI_1]; exact ih
    by_cases c0 : sC s (sl s - 1) = 0
    · obtain ⟨m, hm⟩ := k1 c0
      refine ⟨m, pre _ N (Nat.le_refl _) a3 (fun k _ _ => by rw [c0]; exact hs_0 k) (Or.inl rfl) ⟨fun c => absurd rfl c, fun _ => ?_⟩⟩
      exact hm
    · obtain ⟨i1, i2, i3⟩ := ps_inv hc hi hl c0
      obtain ⟨l1, l2⟩ := lst_in c0
      generalize hk : lst (sC s (sl s - 1)) = k at i2 l1 l2
      have htk := ((a8 k).mp l1).1
      by_cases c1 : st s = n
      · refine ⟨0, pre _ k (by omega) htk (fun j _ hj => l2 j hj) (Or.inr l1) ⟨fun _ => ⟨fun c => absurd (by rw [c1]) c, fun _ => ?_⟩, fun c => absurd ((nI_eq (by omega) (by omega)).mp c) (by omega)⟩⟩
        have := k2 c0 c1
        rw [e0] at this
        exact this
      · have hr := ps_rel hc hpar hi h hl hM c0 hk
        obtain ⟨m, hm⟩ := k3 c0 c1 _ _ _ _ hr
        refine ⟨m, pre _ k (by omega) htk (fun j _ hj => l2 j hj) (Or.inr l1) ⟨fun _ => ⟨fun _ => ⟨in46 (by omega), in47 (by omega), in45 (by omega), ?_⟩, fun c => absurd ((nI_eq (by omega) (by omega)).mp c) c1⟩, fun c => absurd ((nI_eq (by omega) (by omega)).mp c) (by omega)⟩⟩
        rw [nI_1, nI_1, show sl s - 1 + 1 = sl s by omega]
        refine ⟨in47 (by omega), in47 (by omega), in45 (by omega), in47 (by omega), in46 (by omega), ?_⟩
        rw [cl45 (by omega), cl45 (by omega), cl45 (by omega)]
        rw [nI_pred] at hm
        exact hm
  obtain ⟨m, hm⟩ := body
  exact ⟨m + 1, hm⟩
/-- the first found, or none, or spent -/
theorem m_nextA {G N n : Nat} {ch mt bars chs hits : Nat → Int64} (hc : chM G N ch mt) (hpar : mPar G N ch mt bars chs hits) (hn : n ≤ 100000) {Q : Int32 → Int32 → Int32 → (Nat → Int64) → (Nat → Int64) → (Nat → Int32) → Prop} : ∀ (f : Nat) (s : SS), sInv G N mt s → st s ≤ n → sf s = 0 → 2 * (n - st s) + sl s < f → (1 ≤ sl s → sM s (sl s - 1) ≠ blw G) → ∀ (barred met : Nat → Int64) (taken : Nat → Int32) (tk : Nat → Nat), mRel G N ch mt s barred met taken tk → ((skr G ch mt n false f s).1 = true → ∀ l b m t, Q (-6) (nI (skr G ch mt n false f s).2.1) l b m t) → ((skr G ch mt n false f s).1 = false → (skr G ch mt n false f s).2.2.1 = 0 → ∀ l b m t, Q 0 (nI (skr G ch mt n false f s).2.1) l b m t) → ((skr G ch mt n false f s).1 = false → (skr G ch mt n false f s).2.2.1 ≠ 0 → ∀ (L : Nat) b m (t : Nat → Int32) (tk : Nat → Nat), L ≤ 45 → pop (skr G ch mt n false f s).2.2.2 = L → (∀ p, p < L → t p = nI (tk p) ∧ tk p < 64) → (∀ k, hs (skr G ch mt n false f s).2.2.2 k = true ↔ ∃ p, p < L ∧ k = tk p) → Q 1 (nI (skr G ch mt n false f s).2.1) (nI L) b m t) → ∃ m, w_X7_next_43 (nI n) (nI N) (nI G) bars chs hits Q m (nI (st s)) (nI (sl s) - 1) barred met taken
  | 0, s, _, _, _, h, _ => absurd h (Nat.not_lt_zero _)
  | f + 1, s, hi, ht, hf, hm, hM => by
    intro barred met taken tk hr q6 q0 q1
    have ih := m_nextA hc hpar hn (Q := Q) f
    by_cases h0 : sl s = 0
    · rw [skr, if_pos h0] at q0
      refine ⟨1, ⟨fun _ => q0 rfl hf _ _ _ _, fun c => absurd ?_ c⟩⟩
      rw [h0]; decide
    have hl : 1 ≤ sl s := by omega
    have hM := hM hl
    have hnf : ¬ (0 < sf s ∧ false = false) := fun z => by omega
    refine m_nextStep hc hpar hn hi ht hr hl hM (fun c0 => ?_) (fun c0 c1 => ?_) (fun c0 c1 barred met taken tk hr' => ?_)
    · rw [skr, if_neg h0, if_neg hnf, if_pos c0] at q6 q0 q1
      exact ih (ppS s) (pp_inv hi) ht hf (by show 2 * (n - st s) + (sl s - 1) < f; omega) (fun z => (hr (sl s - 1 - 1) (by have : 1 ≤ sl s - 1 := z; omega)).2.2.2.1 (by have : 1 ≤ sl s - 1 := z; omega) |>.2) _ _ _ _ (pp_rel hr) q6 q0 q1
    · rw [skr, if_neg h0, if_neg hnf, if_neg c0, if_pos c1] at q6
      exact q6 rfl _ _ _ _
    · rw [skr, if_neg h0, if_neg hnf, if_neg c0, if_neg c1] at q6 q0 q1
      obtain ⟨i1, i2, i3⟩ := ps_inv hc hi hl c0
      obtain ⟨l1, l2, l3, l4⟩ := ps_l (G := G) (ch := ch) (mt := mt) (s := s)
      by_cases cf : sM (psS G ch mt s) (sl s) = blw G
      · -- found
        have hfq : sf (psS G ch mt s) = 1 ∧ sq (psS G ch mt s) = sT (psS G ch mt s) (sl s) := by
          unfold psS at cf ⊢
          rw [op_lMT.2.2.1] at cf
          unfold opS
          rw [if_pos (by rw [Nat.add_sub_cancel]; exact cf)]
          exact ⟨by show sf s + 1 = 1; omega, by rw [Nat.add_sub_cancel]⟩
        obtain ⟨f', rfl⟩ : ∃ f', f = f' + 1 := ⟨f - 1, by omega⟩
        rw [skr, if_neg (by omega), if_pos ⟨by omega, rfl⟩] at q1
        have j := i1 (sl s) (by omega)
        have r := hr' (sl s) (by omega)
        refine ⟨1, ?_⟩
        rw [nI_pred]
        refine ⟨fun c => absurd c (nI_pos (by omega)), fun _ => m_goalAt hc.1 (by omega) r.1 j.1 (fun _ => ⟨fun c => absurd rfl c, fun _ => ?_⟩) (fun c => absurd cf c)⟩
        have hh := q1 rfl (by show sf (psS G ch mt s) ≠ 0; omega) (sl s) barred met taken (fun p => tk p - 1) i3 (by rw [hfq.2]; exact j.2.2.1) (fun p hp => ?_) (fun k => ?_)
        · rw [l2] at hh; exact hh
        · have r2 := hr' p (by omega)
          have r3 := (r2.2.2.2.1 (by omega)).1
          refine ⟨by rw [r2.2.1, nI_sub1 r3], ?_⟩
          have := r2.2.2.1
          have := hc.2.1
          omega
        · rw [hfq.2]; exact r.2.2.2.2.2.1 k
      · have hf2 : sf (psS G ch mt s) = 0 := by
          unfold psS at cf ⊢
          rw [op_lMT.2.2.1] at cf
          unfold opS
          rw [if_neg (by rw [Nat.add_sub_cancel]; exact cf)]
          exact hf
        have := ih (psS G ch mt s) i1 (by omega) hf2 (by omega) (fun _ => by rw [l1, Nat.add_sub_cancel]; exact cf) _ _ _ _ hr' q6 q0 q1
        rw [l1, l2] at this
        exact this
