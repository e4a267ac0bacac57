/-- what the matcher reads of two worlds -/
def mtP (P L : Nat) (g h : Nat → Int64) (n1 s1 t1 n2 s2 t2 : Nat → Int64) : Prop := P ≤ 45 ∧ L ≤ 45 ∧ (∀ l, l < L → s1 l = g l) ∧ (∀ l, l < L → s2 l = h l) ∧ (∀ p, p < P → n1 p = nrs g L p ∧ t1 p = thr g L p) ∧ ∀ p, p < P → n2 p = nrs h L p ∧ t2 p = thr h L p
section
variable {P L : Nat} {g h n1 s1 t1 n2 s2 t2 : Nat → Int64}
theorem s_openM (hp : mtP P L g h n1 s1 t1 n2 s2 t2) {l t : Nat} {f : Bool} {im : Nat → Int32} {U C : Nat → Int64} (hl1 : 1 ≤ l) (hl : l ≤ P + 1) {Q : Int32 → (Nat → Int64) → Prop} (q : Q (if mf (opM g h P L l t f im U C) then 1 else 0) (mC (opM g h P L l t f im U C))) : w_X2_open (nI (l - 1)) (if f then 1 else 0) im C U (nI P) (nI L) n1 s1 t1 (nI P) (nI L) n2 s2 t2 Q := by
  obtain ⟨hP, hL, g1, g2, g3, g4⟩ := hp
  refine ⟨in46 (by omega), ?_⟩
  rw [cl45 (by omega)]
  unfold opM at q
  refine ⟨fun c => ⟨?_, ?_⟩, fun c => ?_⟩
  · have : l - 1 ≠ P := fun z => c (by rw [z])
    exact in45 (by omega)
  · have hne : l - 1 ≠ P := fun z => c (by rw [z])
    rw [if_neg hne] at q
    refine s_below (by omega) (s_imageOf (by omega) ⟨in45 (by omega), ?_⟩)
    rw [(g3 _ (by omega)).2]
    refine s_bitCount ?_
    rw [(g3 _ (by omega)).1]
    rw [show vp_updL C (l - 1) 0 = vp_updL C (l - 1) (cdM g h L im (U (l - 1)) (l - 1) 0) from rfl]
    refine lpf (fun n i (r : Nat → Int64) => w_X2_open_75 (wnt g L im (l - 1)) (nI (pop (thr g L (l - 1)))) (nI (l - 1)) (if f then 1 else 0) im U (nI P) (nI L) n1 s1 t1 (nI P) (nI L) n2 s2 t2 Q n (nI i) r) (fun i => vp_updL C (l - 1) (cdM g h L im (U (l - 1)) (l - 1) i)) P 0 (Nat.zero_le _) (fun n => ?_) (fun n i _ hi ih => ?_)
    · exact pk_le P P (fun _ => q) (fun c => by omega)
    · refine pk_le P i (fun c => by omega) (fun _ => ⟨in46 (by omega), ?_⟩)
      rw [cl45 (by omega)]
      have no : ¬ (hs (U (l - 1)) i = false ∧ pop (thr h L i) = pop (thr g L (l - 1)) ∧ (nrs h L i &&& U (l - 1)) = wnt g L im (l - 1)) → w_X2_open_75 (wnt g L im (l - 1)) (nI (pop (thr g L (l - 1)))) (nI (l - 1)) (if f then 1 else 0) im U (nI P) (nI L) n1 s1 t1 (nI P) (nI L) n2 s2 t2 Q n (nI i + 1) (vp_updL C (l - 1) (cdM g h L im (U (l - 1)) (l - 1) i)) := fun z => by
        rw [nI_1]
        have e : cdM g h L im (U (l - 1)) (l - 1) (i + 1) = cdM g h L im (U (l - 1)) (l - 1) i := by
          unfold cdM
          rw [cdA, if_neg z]
        rw [e] at ih
        exact ih
      refine s_has (by omega) (fun b => ⟨fun _ => no (fun z => by rw [b] at z; cases z.1), fun d => absurd d (by decide)⟩) (fun b => ⟨fun d => absurd rfl d, fun _ => ⟨in45 (by omega), ?_⟩⟩)
      rw [cl45 (by omega), (g4 i hi).2]
      refine s_bitCount ⟨fun d => no (fun z => d (by rw [z.2.1])), fun d => ⟨in45 (by omega), in46 (by omega), ?_⟩⟩
      have d' := pop_nI.mp d
      rw [(g4 i hi).1, lgc]
      refine ⟨fun d2 => no (fun z => d2 z.2.2), fun d2 => ⟨in46 (by omega), in46 (by omega), ?_⟩⟩
      show w_X2_open_75 _ _ _ _ _ _ _ _ _ _ _ _ _ _ _ _ _ n (nI i + 1) _
      rw [nI_1, updL_2, vp_updL_same]
      have e : cdM g h L im (U (l - 1)) (l - 1) (i + 1) = (cdM g h L im (U (l - 1)) (l - 1) i ||| vshl 1 (nI i)) := by
        unfold cdM
        rw [cdA, if_pos ⟨b, d', d2⟩]
      rw [e] at ih
      exact ih
  · have he : l - 1 = P := (nI_eq (by omega) (by omega)).mp c
    rw [if_pos he] at q
    refine s_linesFit hP hL g1 g2 ⟨?_, q⟩
    cases fit g h P L im
    · exact Or.inl rfl
    · exact Or.inr rfl
theorem s_takeM (hp : mtP P L g h n1 s1 t1 n2 s2 t2) {s : MS} (hi : aInv P s) (hl : 1 ≤ ml s) (h0 : mC s (ml s - 1) ≠ 0) {Q : Int32 → Int32 → Int32 → (Nat → Int32) → (Nat → Int64) → (Nat → Int64) → Prop} (k : Q (nI (ml (psM g h P L s) - 1)) (nI (mt' (psM g h P L s))) (if mf (psM g h P L s) then 1 else 0) (mi (psM g h P L s)) (mC (psM g h P L s)) (mU (psM g h P L s))) : w_X2_take (nI (ml s - 1)) (nI (mt' s)) (if mf s then 1 else 0) (mi s) (mC s) (mU s) (nI P) (nI L) n1 s1 t1 (nI P) (nI L) n2 s2 t2 Q := by
  obtain ⟨i1, i2, i3⟩ := psM_inv (g := g) (h := h) (L := L) hp.1 hi hl h0
  have hP := hp.1
  obtain ⟨l1, l2⟩ := psM_l (g := g) (h := h) (P := P) (L := L) (s := s)
  refine ⟨in46 (by omega), ?_⟩
  rw [cl45 (by omega)]
  refine s_leastOf ⟨in46 (by omega), in46 (by omega), ?_⟩
  rw [nI_1, nI_1]
  rw [l1, l2, Nat.add_sub_cancel] at k
  unfold psM at k
  generalize hk : lst (mC s (ml s - 1)) = c at k i2
  rw [opM_l.2.2.1, opM_l.2.2.2] at k
  refine pk_le 45 c (fun d => by omega) (fun _ => pk_le P (ml s - 1) (fun d => by omega) (fun _ => ⟨in45 (by omega), in46 (by omega), in46 (by omega), ?_⟩))
  rw [show ml s - 1 + 1 = ml s by omega, cl45 (by omega)]
  have ho := s_openM hp (l := ml s + 1) (t := mt' s + 1) (f := mf s) (im := upd (mi s) (ml s - 1) (nI c)) (U := vp_updL (mU s) (ml s) (mU s (ml s - 1) ||| vshl 1 (nI c))) (C := vp_updL (mC s) (ml s - 1) (mC s (ml s - 1) &&& (vshl 1 (nI c) ^^^ (-1)))) (Q := fun u0 u1 => w_X2_take_109 (nI (ml s)) (nI (mt' s + 1)) u0 (upd (mi s) (ml s - 1) (nI c)) u1 (vp_updL (mU s) (ml s) (mU s (ml s - 1) ||| vshl 1 (nI c))) (nI P) (nI L) n1 s1 t1 (nI P) (nI L) n2 s2 t2 Q) (by omega) (by omega) k
  rw [Nat.add_sub_cancel] at ho
  exact ho
theorem s_matchLoop (hp : mtP P L g h n1 s1 t1 n2 s2 t2) {n : Nat} (hn : n ≤ 100000) {Q : Int32 → Int32 → Int32 → Int32 → (Nat → Int32) → (Nat → Int64) → (Nat → Int64) → Prop} : ∀ (f : Nat) (s : MS), aInv P s → mt' s ≤ n → 2 * (n - mt' s) + ml s < f → ml s ≤ 2 * mt' s + 1 → (∀ d C U, Q d (nI (mkr g h P L n f s).2.1) (if (mkr g h P L n f s).1 then 1 else 0) (if (mkr g h P L n f s).2.2.1 then 1 else 0) (mkr g h P L n f s).2.2.2 C U) → ∃ k, w_X2_match_59 (nI n) 0 (nI P) (nI L) n1 s1 t1 (nI P) (nI L) n2 s2 t2 Q k (nI (2 * mt' s + 1 - ml s)) (nI (ml s) - 1) (nI (mt' s)) (if mf s then 1 else 0) (mi s) (mC s) (mU s)
  | 0, s, _, _, h, _, _ => absurd h (Nat.not_lt_zero _)
  | f + 1, s, hi, ht, hm, hs', hq => by
    have ih := fun s => s_matchLoop hp hn (Q := Q) f s
    have hP := hp.1
    have hl46 := hi.1
    rw [mkr] at hq
    by_cases h0 : ml s = 0
    · rw [if_pos h0] at hq
      refine ⟨1, pk_le 1000000 (2 * mt' s + 1 - ml s) (fun c => by omega) (fun _ => ⟨fun _ => ?_, fun c => absurd ?_ c⟩)⟩
      · exact hq _ _ _
      · rw [h0]; decide
    rw [if_neg h0] at hq
    have hpos : ¬ (nI (ml s) - 1 < 0) := by rw [nI_sub1 (by omega)]; exact nI_pos (by omega)
    by_cases h1 : mf s = true
    · rw [if_pos h1] at hq
      refine ⟨1, pk_le 1000000 (2 * mt' s + 1 - ml s) (fun c => by omega) (fun _ => ⟨fun c => absurd c hpos, fun _ => ⟨fun _ => hq _ _ _, fun c => ?_⟩⟩)⟩
      rw [h1] at c
      exact absurd c (by decide)
    rw [if_neg h1] at hq
    have hf0 : mf s = false := bool_ff h1
    have body : (∃ k, w_X2_match_59s (nI n) 0 (nI P) (nI L) n1 s1 t1 (nI P) (nI L) n2 s2 t2 Q (w_X2_match_59 (nI n) 0 (nI P) (nI L) n1 s1 t1 (nI P) (nI L) n2 s2 t2 Q k) (nI (2 * mt' s + 1 - ml s)) (nI (ml s) - 1) (nI (mt' s)) (if mf s then 1 else 0) (mi s) (mC s) (mU s)) := by
      have pre : ∀ (K : Int32 → Int32 → Int32 → Int32 → (Nat → Int32) → (Nat → Int64) → (Nat → Int64) → Prop), (vp_in (nI (ml s - 1)) 46 ∧ ((¬ (lg_cmp (mC s (nI (ml s - 1)).toNatClampNeg) 0) = 0 → ((¬ nI (mt' s) = nI n → (w_X2_take (nI (ml s - 1)) (nI (mt' s)) (if mf s then 1 else 0) (mi s) (mC s) (mU s) (nI P) (nI L) n1 s1 t1 (nI P) (nI L) n2 s2 t2 (fun u0 u1 u2 u3 u4 u5 => K (nI (2 * mt' s + 1 - ml s) + 1) u0 u1 u2 u3 u4 u5))) ∧ (nI (mt' s) = nI n → Q (nI (ml s - 1)) (nI (mt' s)) 1 (if mf s then 1 else 0) (mi s) (mC s) (mU s)))) ∧ ((lg_cmp (mC s (nI (ml s - 1)).toNatClampNeg) 0) = 0 → K (nI (2 * mt' s + 1 - ml s) + 1) (nI (ml s - 1) - 1) (nI (mt' s)) (if mf s then 1 else 0) (mi s) (mC s) (mU s)))) → w_X2_match_59s (nI n) 0 (nI P) (nI L) n1 s1 t1 (nI P) (nI L) n2 s2 t2 Q K (nI (2 * mt' s + 1 - ml s)) (nI (ml s) - 1) (nI (mt' s)) (if mf s then 1 else 0) (mi s) (mC s) (mU s) := by
        intro K z
        refine pk_le 1000000 (2 * mt' s + 1 - ml s) (fun c => by omega) (fun _ => ⟨fun c => absurd c hpos, fun _ => ⟨fun c => absurd (by rw [hf0]; rfl) c, fun _ => ?_⟩⟩)
        rw [nI_sub1 (by omega)]
        exact z
      by_cases c0 : mC s (ml s - 1) = 0
      · rw [if_pos c0] at hq
        obtain ⟨k, hk⟩ := ih (ppM s) (ppM_inv hi) ht (by show 2 * (n - mt' s) + (ml s - 1) < f; omega) (by show ml s - 1 ≤ 2 * mt' s + 1; omega) hq
        change w_X2_match_59 (nI n) 0 (nI P) (nI L) n1 s1 t1 (nI P) (nI L) n2 s2 t2 Q k (nI (2 * mt' s + 1 - (ml s - 1))) (nI (ml s - 1) - 1) (nI (mt' s)) (if mf s then 1 else 0) (mi s) (mC s) (mU s) at hk
        refine ⟨k, pre _ ⟨in46 (by omega), ?_⟩⟩
        rw [cl45 (by omega), lgc]
        refine ⟨fun c => absurd c0 c, fun _ => ?_⟩
        rw [nI_1, show 2 * mt' s + 1 - ml s + 1 = 2 * mt' s + 1 - (ml s - 1) by omega]
        exact hk
      · rw [if_neg c0] at hq
        obtain ⟨i1, i2, i3⟩ := psM_inv (g := g) (h := h) (L := L) hp.1 hi (by omega) c0
        by_cases c1 : mt' s = n
        · rw [if_pos c1] at hq
          refine ⟨0, pre _ ⟨in46 (by omega), ?_⟩⟩
          rw [cl45 (by omega), lgc]
          exact ⟨fun _ => ⟨fun c => absurd (by rw [c1]) c, fun _ => hq _ _ _⟩, fun c => absurd c c0⟩
        · rw [if_neg c1] at hq
          obtain ⟨l1, l2⟩ := psM_l (g := g) (h := h) (P := P) (L := L) (s := s)
          obtain ⟨k, hk⟩ := ih (psM g h P L s) i1 (by omega) (by omega) (by omega) hq
          refine ⟨k, pre _ ⟨in46 (by omega), ?_⟩⟩
          rw [cl45 (by omega), lgc]
          refine ⟨fun _ => ⟨fun _ => s_takeM hp hi (by omega) c0 ?_, fun c => absurd ((nI_eq (by omega) (by omega)).mp c) c1⟩, fun c => absurd c c0⟩
          show w_X2_match_59 (nI n) 0 (nI P) (nI L) n1 s1 t1 (nI P) (nI L) n2 s2 t2 Q k (nI (2 * mt' s + 1 - ml s) + 1) _ _ _ _ _ _
          rw [nI_1, show 2 * mt' s + 1 - ml s + 1 = 2 * mt' (psM g h P L s) + 1 - ml (psM g h P L s) by omega]
          rw [nI_sub1 (by omega)] at hk
          exact hk
    obtain ⟨k, hk⟩ := body
    exact ⟨k + 1, hk⟩
theorem s_match (hp : mtP P L g h n1 s1 t1 n2 s2 t2) {n : Nat} (hn : n ≤ 100000) {z0 z1 z2 z3 : Int32} {im : Nat → Int32} {C U : Nat → Int64} {Q : Int32 → Int32 → Int32 → Int32 → (Nat → Int32) → (Nat → Int64) → (Nat → Int64) → Prop} (hq : ∀ d C' U', Q d (nI (mkr g h P L n (2 * n + 2) (m0 g h P L im U C)).2.1) (if (mkr g h P L n (2 * n + 2) (m0 g h P L im U C)).1 then 1 else 0) (if (mkr g h P L n (2 * n + 2) (m0 g h P L im U C)).2.2.1 then 1 else 0) (mkr g h P L n (2 * n + 2) (m0 g h P L im U C)).2.2.2 C' U') : w_X2_match (nI n) z0 z1 z2 z3 im C U (nI P) (nI L) n1 s1 t1 (nI P) (nI L) n2 s2 t2 Q := by
  refine ⟨fun c => absurd rfl c, fun _ => ⟨fun _ => ⟨in46 (i := 0) (by omega), ?_⟩, fun c => absurd rfl c⟩⟩
  have z0 : (0 : Int32).toNatClampNeg = 0 := by decide
  rw [z0]
  have hi := m0_inv (g := g) (h := h) (L := L) hp.1 im U C
  have e1 : ml (m0 g h P L im U C) = 1 := opM_l.1
  have e2 : mt' (m0 g h P L im U C) = 0 := opM_l.2.1
  have e3 : mi (m0 g h P L im U C) = im := opM_l.2.2.1
  have e4 : mU (m0 g h P L im U C) = vp_updL U 0 0 := opM_l.2.2.2
  have key := s_matchLoop hp hn (Q := Q) (2 * n + 2) (m0 g h P L im U C) hi (by omega) (by omega) (by omega) hq
  rw [e1, e2, e3, e4] at key
  rw [show nI 1 - 1 = 0 from by decide] at key
  exact s_openM hp (l := 1) (t := 0) (f := false) (im := im) (U := vp_updL U 0 0) (C := C) (Q := fun u0 u1 => ∃ k, w_X2_match_59 (nI n) 0 (nI P) (nI L) n1 s1 t1 (nI P) (nI L) n2 s2 t2 Q k 0 0 0 u0 im u1 (vp_updL U 0 0)) (Nat.le_refl _) (by omega) key
end
