/-! the class's seeker is the machine -/
theorem in46 {i : Nat} (h : i < 46) : vp_in (nI i) 46 := vp_in_nI h (by decide)
theorem updL_2 (f : Nat → Int64) (k : Nat) (a b : Int64) : vp_updL (vp_updL f k a) k b = vp_updL f k b := by
  funext p
  unfold vp_updL
  by_cases e : p = k
  · rw [if_pos e, if_pos e]
  · rw [if_neg e, if_neg e, if_neg e]
theorem updL_self {f : Nat → Int64} {k : Nat} {x : Int64} (h : f k = x) : vp_updL f k x = f := by
  funext p
  unfold vp_updL
  by_cases e : p = k
  · rw [if_pos e, e, h]
  · rw [if_neg e]
theorem s_open {G N l f t : Nat} {ch mt M T C : Nat → Int64} (hc : chM G N ch mt) (hl1 : 1 ≤ l) (hl : l ≤ 46) (hM : ∀ g, hs (M (l - 1)) g = true → g < G) {q : Int64} {Q : Int32 → Int64 → (Nat → Int64) → Prop} (h : Q (nI (sf (opS G ch mt l t f q M T C))) (sq (opS G ch mt l t f q M T C)) (sC (opS G ch mt l t f q M T C))) : w_X4_open (blw G) (nI (l - 1)) (nI f) q C M T ch mt Q := by
  refine ⟨in46 (by omega), in46 (by omega), ?_⟩
  rw [cl45 (by omega), lgc]
  unfold opS at h
  refine ⟨fun c => ⟨in46 (by omega), ?_⟩, fun c => ⟨in46 (by omega), ?_⟩⟩
  · rw [if_neg c] at h
    obtain ⟨g1, g2, -⟩ := gl_is hc.1 hM c
    refine s_leastOf ?_
    have hG := hc.1
    refine pk_lt (gl G (M (l - 1))) 45 (fun _ => ?_) (fun c => by omega)
    rw [show lst (M (l - 1) ^^^ (-1)) = gl G (M (l - 1)) from rfl]
    generalize hg : gl G (M (l - 1)) = g at h g1 g2 ⊢
    have step0 : ∀ (i : Nat), i < 45 → hs (ch g) i = true → vp_in (nI i) 45 := fun i hi _ => in45 hi
    rw [show vp_updL C (l - 1) 0 = vp_updL C (l - 1) (cdF (ch g) mt (M (l - 1)) 0) from rfl]
    refine lpf (fun n i (L : Nat → Int64) => w_X4_open_78 (nI g) (blw G) (nI (l - 1)) (nI f) q M T ch mt Q n (nI i) L) (fun i => vp_updL C (l - 1) (cdF (ch g) mt (M (l - 1)) i)) 45 0 (Nat.zero_le _) (fun n => ?_) (fun n i _ hi ih => ?_)
    · exact pk_le 45 45 (fun _ => h) (fun c => by omega)
    · refine pk_le 45 i (fun c => by omega) (fun _ => ⟨in45 (by omega), ?_⟩)
      rw [cl45 (by omega)]
      refine s_has (by omega) (fun b => ⟨fun c => absurd c (by decide), fun _ => ⟨in45 hi, in46 (by omega), ?_⟩⟩) (fun b => ⟨fun _ => ?_, fun c => absurd rfl c⟩)
      · rw [cl45 (by omega), cl45 (by omega), lgc]
        refine ⟨fun d => ?_, fun d => ⟨in46 (by omega), in46 (by omega), ?_⟩⟩
        · show w_X4_open_78 _ _ _ _ _ _ _ _ _ Q n (nI i + 1) _
          rw [nI_1]
          rw [cdF, if_neg (fun z => d z.2)] at ih
          exact ih
        · show w_X4_open_78 _ _ _ _ _ _ _ _ _ Q n (nI i + 1) _
          rw [nI_1, updL_2, vp_updL_same]
          rw [cdF, if_pos ⟨b, d⟩] at ih
          exact ih
      · show w_X4_open_78 _ _ _ _ _ _ _ _ _ Q n (nI i + 1) _
        rw [nI_1]
        rw [cdF, if_neg (fun z => by rw [b] at z; cases z.1)] at ih
        exact ih
  · rw [if_pos c] at h
    rw [nI_1]
    exact h
theorem op_lMT {G : Nat} {ch mt : Nat → Int64} {l t f : Nat} {q : Int64} {M T C : Nat → Int64} : sl (opS G ch mt l t f q M T C) = l ∧ st (opS G ch mt l t f q M T C) = t ∧ sM (opS G ch mt l t f q M T C) = M ∧ sT (opS G ch mt l t f q M T C) = T := by
  unfold opS
  split <;> exact ⟨rfl, rfl, rfl, rfl⟩
theorem nI_sub1 {l : Nat} (h : 1 ≤ l) : nI l - 1 = nI (l - 1) := by
  obtain ⟨k, rfl⟩ : ∃ k, l = k + 1 := ⟨l - 1, by omega⟩
  exact nI_pred k
theorem s_take {G N : Nat} {ch mt : Nat → Int64} (hc : chM G N ch mt) {s : SS} (h : sInv G N mt s) (hl : 1 ≤ sl s) (h0 : sC s (sl s - 1) ≠ 0) {Q : Int32 → Int32 → Int32 → Int64 → (Nat → Int64) → (Nat → Int64) → (Nat → Int64) → Prop} (k : Q (nI (sl (psS G ch mt s) - 1)) (nI (st (psS G ch mt s))) (nI (sf (psS G ch mt s))) (sq (psS G ch mt s)) (sC (psS G ch mt s)) (sM (psS G ch mt s)) (sT (psS G ch mt s))) : w_X4_take (blw G) (nI (sl s - 1)) (nI (st s)) (nI (sf s)) (sq s) (sC s) (sM s) (sT s) ch mt Q := by
  obtain ⟨i1, i2, i3⟩ := ps_inv hc h hl h0
  have hN := hc.2.1
  obtain ⟨l1, l2, l3, l4⟩ := ps_l (G := G) (ch := ch) (mt := mt) (s := s)
  refine ⟨in46 (by omega), ?_⟩
  rw [cl45 (by omega)]
  refine s_leastOf ⟨in46 (by omega), in46 (by omega), ?_⟩
  rw [nI_1, nI_1]
  rw [l1, l2, Nat.add_sub_cancel] at k
  unfold psS at k
  generalize hk : lst (sC s (sl s - 1)) = c at k i2
  obtain ⟨e1, e2, e3, e4⟩ := op_lMT (G := G) (ch := ch) (mt := mt) (l := sl s + 1) (t := st s + 1) (f := sf s) (q := sq s) (M := vp_updL (sM s) (sl s) (sM s (sl s - 1) ||| mt c)) (T := vp_updL (sT s) (sl s) (sT s (sl s - 1) ||| vshl 1 (nI c))) (C := vp_updL (sC s) (sl s - 1) (sC s (sl s - 1) &&& (vshl 1 (nI c) ^^^ (-1))))
  rw [e3, e4] at k
  refine pk_le 45 c (fun d => by omega) (fun _ => pk_le 45 (sl s - 1) (fun d => by omega) (fun _ => ⟨in46 (by omega), in45 (by omega), ?_, in46 (by omega), ?_, ?_⟩))
  · exact in46 (by omega)
  · exact in46 (by omega)
  · rw [show sl s - 1 + 1 = sl s by omega, cl45 (by omega), cl45 (by omega)]
    have hM : ∀ g, hs (vp_updL (sM s) (sl s) (sM s (sl s - 1) ||| mt c) (sl s + 1 - 1)) g = true → g < G := fun g hg => by
      have := (i1 (sl s) (by rw [l1]; omega)).1 g
      unfold psS at this
      rw [hk, e3] at this
      exact this (by rw [Nat.add_sub_cancel] at hg; exact hg)
    have ho := s_open (T := vp_updL (sT s) (sl s) (sT s (sl s - 1) ||| vshl 1 (nI c))) (C := vp_updL (sC s) (sl s - 1) (sC s (sl s - 1) &&& (vshl 1 (nI c) ^^^ (-1)))) (t := st s + 1) (f := sf s) (q := sq s) (l := sl s + 1) (Q := fun u0 u1 u2 => w_X4_take_121 (blw G) (nI (sl s)) (nI (st s + 1)) u0 u1 u2 (vp_updL (sM s) (sl s) (sM s (sl s - 1) ||| mt c)) (vp_updL (sT s) (sl s) (sT s (sl s - 1) ||| vshl 1 (nI c))) ch mt Q) hc (by omega) (by omega) hM k
    rw [Nat.add_sub_cancel] at ho
    exact ho
/-- the machine's end, once it has room for its steps -/
theorem s_seekLoop {G N n : Nat} {ch mt : Nat → Int64} (hc : chM G N ch mt) (hn : n ≤ 100000) {e : Int32} {Q : Int64 → Int32 → Int32 → Int32 → Int32 → Int64 → (Nat → Int64) → (Nat → Int64) → (Nat → Int64) → Prop} : ∀ (f : Nat) (s : SS), sInv G N mt s → st s ≤ n → sf s ≤ st s + 1 → 2 * (n - st s) + sl s < f → sl s ≤ 2 * st s + 1 → (∀ d C M T, Q (blw G) d (nI (skr G ch mt n (decide (e ≠ 0)) f s).2.1) (if (skr G ch mt n (decide (e ≠ 0)) f s).1 then 1 else 0) (nI (skr G ch mt n (decide (e ≠ 0)) f s).2.2.1) (skr G ch mt n (decide (e ≠ 0)) f s).2.2.2 C M T) → ∃ k, w_X4_seek_51 (nI n) e (blw G) 0 ch mt Q k (nI (2 * st s + 1 - sl s)) (nI (sl s) - 1) (nI (st s)) (nI (sf s)) (sq s) (sC s) (sM s) (sT s)
  | 0, s, _, _, _, h, _, _ => absurd h (Nat.not_lt_zero _)
  | f + 1, s, hi, ht, hf, hm, hs', hq => by
    have ih := fun s => s_seekLoop hc hn (e := e) (Q := Q) f s
    rw [skr] at hq
    by_cases h0 : sl s = 0
    · rw [if_pos h0] at hq
      refine ⟨1, pk_le 1000000 (2 * st s + 1 - sl s) (fun c => by omega) (fun _ => ⟨fun _ => ?_, fun c => absurd ?_ c⟩)⟩
      · exact hq _ _ _ _
      · rw [h0]; decide
    rw [if_neg h0] at hq
    have hpos : ¬ (nI (sl s) - 1 < 0) := by rw [nI_sub1 (by omega)]; exact nI_pos (by
      by_cases c0 : sC s (sl s - 1) = 0
      · omega
      · omega)
    by_cases h1 : 0 < sf s ∧ decide (e ≠ 0) = false
    · rw [if_pos h1] at hq
      have he : e = 0 := by
        have := h1.2
        simpa using this
      refine ⟨1, pk_le 1000000 (2 * st s + 1 - sl s) (fun c => by omega) (fun _ => ⟨fun c => absurd c hpos, fun _ => pk_le (sf s) 0 (fun c => by omega) (fun _ => ⟨fun c => absurd he c, fun _ => hq _ _ _ _⟩)⟩)⟩
    rw [if_neg h1] at hq
    -- the step's body
    have body : (∃ k, w_X4_seek_78 (nI n) e (nI (2 * st s + 1 - sl s)) (blw G) (nI (sl s) - 1) (nI (st s)) 0 (nI (sf s)) (sq s) (sC s) (sM s) (sT s) ch mt (w_X4_seek_51 (nI n) e (blw G) 0 ch mt Q k) Q) := by
      by_cases c0 : sC s (sl s - 1) = 0
      · rw [if_pos c0] at hq
        obtain ⟨k, hk⟩ := ih (ppS s) (pp_inv hi) ht hf (by show 2 * (n - st s) + (sl s - 1) < f; omega) (by show sl s - 1 ≤ 2 * st s + 1; omega) hq
        change w_X4_seek_51 (nI n) e (blw G) 0 ch mt Q k (nI (2 * st s + 1 - (sl s - 1))) (nI (sl s - 1) - 1) (nI (st s)) (nI (sf s)) (sq s) (sC s) (sM s) (sT s) at hk
        refine ⟨k, ?_⟩
        rw [nI_sub1 (by omega)]
        have hl46 : sl s ≤ 46 := by
          obtain ⟨-, b2, -⟩ := hi (sl s - 1) (by omega)
          have hb := (hi (sl s - 1) (by omega)).1
          have hG := hc.1
          have : pop (sM s (sl s - 1)) ≤ 45 := by
            rw [pop_45 (fun i hh => bool_ff (fun z => by have := hb i z; omega))]
            exact fb_ct_le _ _
          omega
        refine ⟨in46 (by omega), ?_⟩
        rw [cl45 (by omega), lgc]
        refine ⟨fun c => absurd c0 c, fun _ => ?_⟩
        show w_X4_seek_51 (nI n) e (blw G) 0 ch mt Q k (nI (2 * st s + 1 - sl s) + 1) (nI (sl s - 1) - 1) _ _ _ _ _ _
        rw [nI_1, show 2 * st s + 1 - sl s + 1 = 2 * st s + 1 - (sl s - 1) by omega]
        exact hk
      · rw [if_neg c0] at hq
        obtain ⟨i1, i2, i3⟩ := ps_inv hc hi (by omega) c0
        by_cases c1 : st s = n
        · rw [if_pos c1] at hq
          refine ⟨0, ?_⟩
          rw [nI_sub1 (by omega)]
          refine ⟨in46 (by omega), ?_⟩
          rw [cl45 (by omega), lgc]
          exact ⟨fun _ => ⟨fun c => absurd (by rw [c1]) c, fun _ => hq _ _ _ _⟩, fun c => absurd c c0⟩
        · rw [if_neg c1] at hq
          obtain ⟨l1, l2, l3, l4⟩ := ps_l (G := G) (ch := ch) (mt := mt) (s := s)
          obtain ⟨k, hk⟩ := ih (psS G ch mt s) i1 (by omega) (by omega) (by omega) (by omega) hq
          refine ⟨k, ?_⟩
          rw [nI_sub1 (by omega)]
          refine ⟨in46 (by omega), ?_⟩
          rw [cl45 (by omega), lgc]
          refine ⟨fun _ => ⟨fun _ => s_take hc hi (by omega) c0 ?_, fun c => absurd ((nI_eq (by omega) (by omega)).mp c) c1⟩, fun c => absurd c c0⟩
          show w_X4_seek_51 (nI n) e (blw G) 0 ch mt Q k (nI (2 * st s + 1 - sl s) + 1) _ _ _ _ _ _ _
          rw [nI_1, show 2 * st s + 1 - sl s + 1 = 2 * st (psS G ch mt s) + 1 - sl (psS G ch mt s) by omega]
          rw [nI_sub1 (by omega)] at hk
          exact hk
    obtain ⟨k, hk⟩ := body
    refine ⟨k + 1, pk_le 1000000 (2 * st s + 1 - sl s) (fun c => by omega) (fun _ => ⟨fun c => absurd c hpos, fun _ => pk_le (sf s) 0 (fun _ => hk) (fun c => ⟨fun _ => hk, fun d => absurd ⟨c, by simp [d]⟩ h1⟩)⟩)⟩
theorem s_seek {G N n : Nat} {ch mt : Nat → Int64} (hc : chM G N ch mt) (hn : n ≤ 100000) {e z1 z2 z3 z4 : Int32} {z0 z5 : Int64} {C M T : Nat → Int64} {Q : Int64 → Int32 → Int32 → Int32 → Int32 → Int64 → (Nat → Int64) → (Nat → Int64) → (Nat → Int64) → Prop} (hq : ∀ d C' M' T', Q (blw G) d (nI (skr G ch mt n (decide (e ≠ 0)) (2 * n + 2) (s0 G ch mt z5 M T C)).2.1) (if (skr G ch mt n (decide (e ≠ 0)) (2 * n + 2) (s0 G ch mt z5 M T C)).1 then 1 else 0) (nI (skr G ch mt n (decide (e ≠ 0)) (2 * n + 2) (s0 G ch mt z5 M T C)).2.2.1) (skr G ch mt n (decide (e ≠ 0)) (2 * n + 2) (s0 G ch mt z5 M T C)).2.2.2 C' M' T') : w_X4_seek (nI G) (nI n) e z0 z1 z2 z3 z4 z5 C M T ch mt Q := by
  refine s_below (by have := hc.1; omega) ⟨in46 (i := 0) (by omega), in46 (i := 0) (by omega), ?_⟩
  have hi := s0_inv hc z5 M T C
  obtain ⟨e1, e2, e3, e4⟩ := op_lMT (G := G) (ch := ch) (mt := mt) (l := 1) (t := 0) (f := 0) (q := z5) (M := vp_updL M 0 0) (T := vp_updL T 0 0) (C := C)
  have hfs : sf (s0 G ch mt z5 M T C) ≤ 1 := by
    unfold s0 opS
    split
    · exact Nat.le_refl _
    · exact Nat.zero_le _
  have key := s_seekLoop hc hn (e := e) (Q := Q) (2 * n + 2) (s0 G ch mt z5 M T C) hi (by show st (s0 G ch mt z5 M T C) ≤ n; unfold s0; rw [e2]; omega) (by unfold s0 at hfs ⊢; rw [e2]; omega) (by unfold s0; rw [e1, e2]; omega) (by unfold s0; rw [e1, e2]; omega) hq
  have z0 : (0 : Int32).toNatClampNeg = 0 := by decide
  rw [z0]
  have h1 : sl (s0 G ch mt z5 M T C) = 1 := e1
  have h2 : st (s0 G ch mt z5 M T C) = 0 := e2
  have h3 : sM (s0 G ch mt z5 M T C) = vp_updL M 0 0 := e3
  have h4 : sT (s0 G ch mt z5 M T C) = vp_updL T 0 0 := e4
  rw [h1, h2, h3, h4] at key
  have ho := s_open (l := 1) (t := 0) (f := 0) (q := z5) (M := vp_updL M 0 0) (T := vp_updL T 0 0) (C := C) (Q := fun u0 u1 u2 => ∃ k, w_X4_seek_51 (nI n) e (blw G) 0 ch mt Q k 0 0 0 u0 u1 u2 (vp_updL M 0 0) (vp_updL T 0 0)) hc (Nat.le_refl _) (by omega) (fun g hg => by rw [vp_updL_same, hs_0] at hg; cases hg)
  rw [show nI 1 - 1 = 0 from by decide] at key
  exact ho key
