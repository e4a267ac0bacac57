/-- all found, counted, or spent -/
theorem m_nextB {G N n : Nat} {ch mt bars chs hits : Nat → Int64} (hc : chM G N ch mt) (hpar : mPar G N ch mt bars chs hits) (hn : n ≤ 100000) {fd : Int32} {ask : Int64} {fs lc pt : Nat → Int32} {ln : Nat → Int64} {Q : Int32 → Int32 → Int64 → Int32 → Int32 → Int32 → Int32 → (Nat → Int64) → (Nat → Int64) → (Nat → Int64) → (Nat → Int32) → (Nat → Int64) → (Nat → Int64) → (Nat → Int32) → Prop} : ∀ (f : Nat) (s : SS) (F : Nat), f < F → sInv G N mt s → st s ≤ n → 2 * (n - st s) + sl s < f → (1 ≤ sl s → sM s (sl s - 1) ≠ blw G) → ∀ (barred met : Nat → Int64) (taken : Nat → Int32) (tk : Nat → Nat), mRel G N ch mt s barred met taken tk → ((skr G ch mt n true f s).1 = true → ∀ l b m t, Q (-6) fd ask (nI (skr G ch mt n true f s).2.1) (nI N) (nI G) l b bars chs fs hits m t) → ((skr G ch mt n true f s).1 = false → ∀ l b m t, Q 1 fd (lN (skr G ch mt n true f s).2.2.1) (nI (skr G ch mt n true f s).2.1) (nI N) (nI G) l b bars chs fs hits m t) → ∀ (K : Int32 → Int32 → Int32 → (Nat → Int64) → (Nat → Int64) → (Nat → Int32) → Prop), (∀ r u0 u1 u2 u3 u4, w_X7_ovoids_53 (nI n) fd ask (nI N) (nI G) bars chs fs hits lc ln pt Q F (lN (sf s)) r u0 u1 u2 u3 u4 → K r u0 u1 u2 u3 u4) → ∃ m, w_X7_next_43 (nI n) (nI N) (nI G) bars chs hits K m (nI (st s)) (nI (sl s) - 1) barred met taken := by
  intro f
  induction f using Nat.strongRecOn with
  | ind f IH =>
    intro s F hF hi ht hm hM barred met taken tk hr q6 q1 K hK
    cases f with
    | zero => exact absurd hm (Nat.not_lt_zero _)
    | succ f =>
    have ih := IH f (by omega)
    obtain ⟨F', rfl⟩ : ∃ F', F = F' + 1 := ⟨F - 1, by omega⟩
    by_cases h0 : sl s = 0
    · rw [skr, if_pos h0] at q1
      refine ⟨1, ⟨fun _ => hK _ _ _ _ _ _ ⟨fun _ => ⟨fun _ => q1 rfl _ _ _ _, fun c => absurd (by decide) c⟩, fun c => absurd c (by decide)⟩, fun c => absurd ?_ c⟩⟩
      rw [h0]; decide
    have hl : 1 ≤ sl s := by omega
    have hM := hM hl
    have hnf : ¬ (0 < sf s ∧ true = false) := fun z => by cases z.2
    refine m_nextStep hc hpar hn hi ht hr hl hM (fun c0 => ?_) (fun c0 c1 => ?_) (fun c0 c1 barred met taken tk hr' => ?_)
    · rw [skr, if_neg h0, if_neg hnf, if_pos c0] at q6 q1
      exact ih (ppS s) (F' + 1) (by omega) (pp_inv hi) ht (by show 2 * (n - st s) + (sl s - 1) < f; omega) (fun z => (hr (sl s - 1 - 1) (by have : 1 ≤ sl s - 1 := z; omega)).2.2.2.1 (by have : 1 ≤ sl s - 1 := z; omega) |>.2) _ _ _ _ (pp_rel hr) q6 q1 K hK
    · rw [skr, if_neg h0, if_neg hnf, if_neg c0, if_pos c1] at q6
      exact hK _ _ _ _ _ _ ⟨fun _ => ⟨fun c => absurd c (by decide), fun _ => q6 rfl _ _ _ _⟩, fun c => absurd c (by decide)⟩
    · rw [skr, if_neg h0, if_neg hnf, if_neg c0, if_neg c1] at q6 q1
      obtain ⟨i1, i2, i3⟩ := ps_inv hc hi hl c0
      obtain ⟨l1, l2, l3, l4⟩ := ps_l (G := G) (ch := ch) (mt := mt) (s := s)
      by_cases cf : sM (psS G ch mt s) (sl s) = blw G
      · have hfq : sf (psS G ch mt s) = sf s + 1 ∧ sC (psS G ch mt s) (sl s) = 0 := by
          unfold psS at cf ⊢
          rw [op_lMT.2.2.1] at cf
          unfold opS
          rw [if_pos (by rw [Nat.add_sub_cancel]; exact cf)]
          refine ⟨rfl, ?_⟩
          show vp_updL _ (sl s + 1 - 1) 0 (sl s) = 0
          rw [Nat.add_sub_cancel, vp_updL_same]
        obtain ⟨f', rfl⟩ : ∃ f', f = f' + 1 := ⟨f - 1, by omega⟩
        have hnf2 : ¬ (0 < sf (psS G ch mt s) ∧ true = false) := fun z => by cases z.2
        have j := i1 (sl s) (by omega)
        have r := hr' (sl s) (by omega)
        have hpp := IH f' (by omega) (ppS (psS G ch mt s)) F' (by omega) (pp_inv i1) (by show st (psS G ch mt s) ≤ n; omega) (by show 2 * (n - st (psS G ch mt s)) + (sl (psS G ch mt s) - 1) < f'; omega) (fun z => by
          show sM (psS G ch mt s) (sl (psS G ch mt s) - 1 - 1) ≠ blw G
          exact (hr' (sl (psS G ch mt s) - 1 - 1) (by omega)).2.2.2.1 (by omega) |>.2) barred met taken tk (pp_rel hr')
        rw [skr, if_neg (by omega), if_neg hnf2, l1, Nat.add_sub_cancel, if_pos hfq.2] at q6 q1
        obtain ⟨m, hm'⟩ := hpp q6 q1 (fun r u0 u1 u2 u3 u4 => w_X7_ovoids_53 (nI n) fd ask (nI N) (nI G) bars chs fs hits lc ln pt Q F' (lN (sf s + 1)) r u0 u1 u2 u3 u4) (fun r u0 u1 u2 u3 u4 z => by rw [← hfq.1]; exact z)
        refine ⟨1, ?_⟩
        rw [nI_pred]
        refine ⟨fun c => absurd c (nI_pos (by omega)), fun _ => m_goalAt hc.1 (by omega) r.1 j.1 (fun _ => ⟨fun c => absurd rfl c, fun _ => ?_⟩) (fun c => absurd cf c)⟩
        refine hK _ _ _ _ _ _ ⟨fun c => absurd rfl c, fun _ => ⟨fun _ => ⟨m, ?_⟩, fun c => absurd rfl c⟩⟩
        rw [lN_1]
        have e1 : sl (ppS (psS G ch mt s)) = sl s := by show sl (psS G ch mt s) - 1 = sl s; omega
        rw [e1] at hm'
        show w_X7_next_43 _ _ _ _ _ _ _ m (nI (st s + 1)) _ _ _ _
        rw [← l2]
        exact hm'
      · have hf2 : sf (psS G ch mt s) = sf s := by
          unfold psS at cf ⊢
          rw [op_lMT.2.2.1] at cf
          unfold opS
          rw [if_neg (by rw [Nat.add_sub_cancel]; exact cf)]
        have := ih (psS G ch mt s) (F' + 1) (by omega) i1 (by omega) (by omega) (fun _ => by rw [l1, Nat.add_sub_cancel]; exact cf) _ _ _ _ hr' q6 q1 K (by rw [hf2]; exact hK)
        rw [l1, l2] at this
        exact this
theorem skr_bd {G n : Nat} {ch mt : Nat → Int64} {e : Bool} : ∀ (f : Nat) (s : SS), st s ≤ n → sf s ≤ st s + 1 → (skr G ch mt n e f s).2.1 ≤ n ∧ (skr G ch mt n e f s).2.2.1 ≤ (skr G ch mt n e f s).2.1 + 1
  | 0, s, h1, h2 => ⟨h1, h2⟩
  | f + 1, s, h1, h2 => by
    rw [skr]
    split
    · exact ⟨h1, h2⟩
    · split
      · exact ⟨h1, h2⟩
      · split
        · exact skr_bd f (ppS s) h1 h2
        · split
          · exact ⟨h1, h2⟩
          · obtain ⟨l1, l2, l3, l4⟩ := ps_l (G := G) (ch := ch) (mt := mt) (s := s)
            exact skr_bd f (psS G ch mt s) (by omega) (by omega)
/-- what a search of a world is: of points or of lines -/
def svG (b : Bool) (v : AV) : Nat := if b then vL v else vP v
def svN (b : Bool) (v : AV) : Nat := if b then vP v else vL v
def svC (b : Bool) (v : AV) : Nat → Int64 := if b then vG v else thr (vG v) (vL v)
def svM (b : Bool) (v : AV) : Nat → Int64 := if b then thr (vG v) (vL v) else vG v
theorem sv_chM {b : Bool} {v : AV} (h1 : vP v ≤ 45) (h2 : vL v ≤ 45) (h3 : gOK (vG v) (vP v) (vL v)) : chM (svG b v) (svN b v) (svC b v) (svM b v) := by
  cases b
  · exact ⟨h1, h2, fun g hg k hk => ⟨thr_in h2 hk, ((hs_thr _ _ _ _ h2).mp hk).2⟩, fun k hk g hg => h3 k hk g hg⟩
  · exact ⟨h2, h1, fun g hg k hk => ⟨h3 g hg k hk, (hs_thr _ _ _ _ h2).mpr ⟨hg, hk⟩⟩, fun k hk g hg => thr_in h2 hg⟩
abbrev Z4 : Type := Int64 × (Nat → Int64) × (Nat → Int64) × (Nat → Int64)
def skv (b e : Bool) (v : AV) (n : Nat) (z : Z4) : SO := skr (svG b v) (svC b v) (svM b v) n e (2 * n + 2) (s0 (svG b v) (svC b v) (svM b v) z.1 z.2.1 z.2.2.1 z.2.2.2)
theorem skv_bd (b e : Bool) (v : AV) (n : Nat) (z : Z4) : (skv b e v n z).2.1 ≤ n ∧ (skv b e v n z).2.2.1 ≤ (skv b e v n z).2.1 + 1 := by
  refine skr_bd _ _ ?_ ?_
  · unfold s0; rw [op_lMT.2.1]; exact Nat.zero_le _
  · unfold s0 opS; split
    · exact Nat.le_refl _
    · exact Nat.zero_le _
def numT (x : Int32) : Prop := ∃ k, 1 ≤ k ∧ k ≤ 100000 ∧ x = nI k
abbrev QT : Type := Int32 → Int32 → Int32 → Int64 → (Nat → Int32) → Prop
def sp_seek (b : Bool) (z : Z4) (W : AW) (x n fd tr : Int32) (ask : Int64) (fs : Nat → Int32) (Q : QT) : Prop := (¬ numT n → Q (-1) fd tr ask fs) ∧ ∀ k, 1 ≤ k → k ≤ 100000 → n = nI k → lk W x fd fs (fun r fd fs => Q r fd tr ask fs) (fun j => ((skv b false (W j) k z).1 = true → Q (-6) fd (nI (skv b false (W j) k z).2.1) ask fs) ∧ ((skv b false (W j) k z).1 = false → ((skv b false (W j) k z).2.2.1 = 0 → Q (-9) fd (nI (skv b false (W j) k z).2.1) ask fs) ∧ ((skv b false (W j) k z).2.2.1 ≠ 0 → Q (nI (pop (skv b false (W j) k z).2.2.2)) fd (nI (skv b false (W j) k z).2.1) (skv b false (W j) k z).2.2.2 fs)))
def sp_ovoids (z : Z4) (W : AW) (x n fd tr : Int32) (ask : Int64) (fs : Nat → Int32) (Q : QT) : Prop := (¬ numT n → Q (-1) fd tr ask fs) ∧ ∀ k, 1 ≤ k → k ≤ 100000 → n = nI k → lk W x fd fs (fun r fd fs => Q r fd tr ask fs) (fun j => ((skv true true (W j) k z).1 = true → Q (-6) fd (nI (skv true true (W j) k z).2.1) ask fs) ∧ ((skv true true (W j) k z).1 = false → Q 1 fd (nI (skv true true (W j) k z).2.1) (lN (skv true true (W j) k z).2.2.1) fs))
theorem m_setBars {G N : Nat} {mt : Nat → Int64} (hN : N ≤ 45) {lc pt : Nat → Int32} {ln bars chs hits : Nat → Int64} (hh : ∀ k, k < N → hits k = mt k) {Q : Int32 → Int32 → (Nat → Int64) → (Nat → Int64) → (Nat → Int64) → Prop} (k : ∀ bars, (∀ k, k < N → ∀ j, hs (bars k) j = true ↔ j = k ∨ (j < N ∧ (mt k &&& mt j) ≠ 0)) → Q (nI N) (nI G) bars chs hits) : ∃ n, w_X7_setSeeking_140 (nI N) (nI G) chs hits lc ln pt Q n 0 bars := by
  refine pk_loop (fun n i (r : Nat → Int64) => w_X7_setSeeking_140 (nI N) (nI G) chs hits lc ln pt Q n (nI i) r) (fun i r => ∀ k, k < i → ∀ j, hs (r k) j = true ↔ j = k ∨ (j < N ∧ (mt k &&& mt j) ≠ 0)) N 0 bars (Nat.zero_le _) (fun k hk => absurd hk (Nat.not_lt_zero _)) (fun n r hr => pk_le N N (fun _ => k r hr) (fun c => by omega)) (fun n i r hi hr ih => ?_)
  refine pk_le N i (fun c => by omega) (fun _ => ⟨in45 (by omega), ?_⟩)
  rw [cl45 (by omega)]
  refine pk_loop (fun n2 p (r2 : Nat → Int64) => w_X7_setSeeking_160 (nI i) (nI N) (nI G) chs hits lc ln pt _ Q n2 (nI p) r2) (fun p r2 => (∀ j, hs (r2 i) j = true ↔ j = i ∨ (j < p ∧ (mt i &&& mt j) ≠ 0)) ∧ ∀ k, k < i → r2 k = r k) N 0 _ (Nat.zero_le _) ⟨fun j => ?_, fun k hk => upL_ne (by omega)⟩ (fun n2 r2 hr2 => ?_) (fun n2 p r2 hp hr2 ih2 => ?_)
  · rw [vp_updL_same, hs_one (by omega)]
    constructor
    · intro z; left; simpa using z
    · rintro (z | ⟨z, -⟩)
      · simp [z]
      · omega
  · refine pk_le N N (fun _ => ?_) (fun c => by omega)
    rw [nI_1]
    refine ih r2 (fun q hq => ?_)
    by_cases e : q = i
    · rw [e]; exact hr2.1
    · rw [hr2.2 q (by omega)]; exact hr q (by omega)
  · refine pk_le N p (fun c => by omega) (fun _ => ⟨in45 (by omega), in45 (by omega), in45 (by omega), ?_⟩)
    rw [cl45 (by omega), cl45 (by omega), lgc, hh i hi, hh p hp]
    refine ⟨fun c => ⟨in45 (by omega), ?_⟩, fun c => ⟨in45 (by omega), ?_⟩⟩
    · rw [cl45 (by omega), nI_1, or0, updL_self rfl]
      refine ih2 r2 ⟨fun j => (hr2.1 j).trans (or_congr Iff.rfl ⟨fun z => ⟨by omega, z.2⟩, fun z => ⟨?_, z.2⟩⟩), hr2.2⟩
      by_cases e : j = p
      · rw [e] at z; exact absurd c z.2
      · omega
    · rw [cl45 (by omega), nI_1]
      refine ih2 _ ⟨fun j => ?_, fun q hq => by rw [upL_ne (by omega)]; exact hr2.2 q hq⟩
      rw [vp_updL_same, hs_or, Bool.or_eq_true, hr2.1 j, hs_one (by omega)]
      constructor
      · rintro ((z | z) | z)
        · exact Or.inl z
        · exact Or.inr ⟨by omega, z.2⟩
        · have : j = p := by simpa using z
          right; rw [this]; exact ⟨by omega, c⟩
      · rintro (z | z)
        · exact Or.inl (Or.inl z)
        · by_cases e : j = p
          · right; simp [e]
          · exact Or.inl (Or.inr ⟨by omega, z.2⟩)
section
variable {W : AW} {ks lc ms pt : Nat → Int32} {ln : Nat → Int64}
theorem m_setSeeking (h : MW W ks lc ln ms pt) {j : Nat} (hj : j < 6) (h0 : vP (W j) ≠ 0) {b : Bool} {th go : Int32} {bars chs hits : Nat → Int64} {Q : Int32 → Int32 → (Nat → Int64) → (Nat → Int64) → (Nat → Int64) → Prop} (k : ∀ bars chs hits, mPar (svG b (W j)) (svN b (W j)) (svC b (W j)) (svM b (W j)) bars chs hits → Q (nI (svN b (W j))) (nI (svG b (W j))) bars chs hits) : w_X7_setSeeking (nI j) (if b then 1 else 0) th go bars chs hits lc ln pt Q := by
  obtain ⟨a1, a2, a3, a4, a5, a6, a7, a8, a9, a10⟩ := MW_at h hj h0
  have ht : thr (mg ln j) (vL (W j)) = thr (vG (W j)) (vL (W j)) := thr_fcong a9
  have rd : ∀ i, i < vL (W j) → ln ((45 : Int32) * nI j + nI i).toNatClampNeg = vG (W j) i := fun i hi => by rw [ix_c (l := i) hj (by omega) ln, a9 i hi]
  cases b
  · refine ⟨fun _ => ⟨in6 hj, ⟨fun _ => ⟨in6 hj, ?_⟩, fun c => absurd rfl c⟩⟩, fun c => absurd rfl c⟩
    rw [cl45 (by omega), a5, a6]
    change ∀ bars chs hits, mPar (vP (W j)) (vL (W j)) (thr (vG (W j)) (vL (W j))) (vG (W j)) bars chs hits → Q (nI (vL (W j))) (nI (vP (W j))) bars chs hits at k
    refine pk_loop (fun n i (r : Nat → Int64) => w_X7_setSeeking_48 (nI j) 0 (nI (vL (W j))) (nI (vP (W j))) bars chs lc ln pt Q n (nI i) r) (fun i r => ∀ k, k < i → r k = vG (W j) k) (vL (W j)) 0 hits (Nat.zero_le _) (fun k hk => absurd hk (Nat.not_lt_zero _)) (fun n r hr => ?_) (fun n i r hi hr ih => ?_)
    · refine pk_le (vL (W j)) (vL (W j)) (fun _ => ?_) (fun c => by omega)
      refine pk_loop (fun n i (r2 : Nat → Int64) => w_X7_setSeeking_94 (nI j) 0 (nI (vL (W j))) (nI (vP (W j))) bars r lc ln pt Q n (nI i) r2) (fun i r2 => ∀ k, k < i → r2 k = thr (vG (W j)) (vL (W j)) k) (vP (W j)) 0 chs (Nat.zero_le _) (fun k hk => absurd hk (Nat.not_lt_zero _)) (fun n r2 hr2 => ?_) (fun n i r2 hi hr2 ih => ?_)
      · exact pk_le (vP (W j)) (vP (W j)) (fun _ => m_setBars (G := vP (W j)) a3 hr (fun bars hb => k bars r2 r ⟨hb, hr2, hr⟩)) (fun c => by omega)
      · refine pk_le (vP (W j)) i (fun c => by omega) (fun _ => ⟨fun _ => m_through hj a3 (by omega) a6 ⟨in45 (by omega), ?_⟩, fun c => absurd rfl c⟩)
        rw [cl45 (by omega), nI_1, ht]
        refine ih _ (fun q hq => ?_)
        by_cases e : q = i
        · rw [e, vp_updL_same]
        · rw [upL_ne e]; exact hr2 q (by omega)
    · refine pk_le (vL (W j)) i (fun c => by omega) (fun _ => ⟨fun _ => ⟨ix_in hj (by omega), in45 (by omega), ?_⟩, fun c => absurd rfl c⟩)
      rw [cl45 (by omega), nI_1, rd i hi]
      refine ih _ (fun q hq => ?_)
      by_cases e : q = i
      · rw [e, vp_updL_same]
      · rw [upL_ne e]; exact hr q (by omega)
  · refine ⟨fun c => absurd c (by decide), fun _ => ⟨in6 hj, ⟨fun c => absurd c (by decide), fun _ => ⟨in6 hj, ?_⟩⟩⟩⟩
    rw [cl45 (by omega), a5, a6]
    change ∀ bars chs hits, mPar (vL (W j)) (vP (W j)) (vG (W j)) (thr (vG (W j)) (vL (W j))) bars chs hits → Q (nI (vP (W j))) (nI (vL (W j))) bars chs hits at k
    refine pk_loop (fun n i (r : Nat → Int64) => w_X7_setSeeking_48 (nI j) 1 (nI (vP (W j))) (nI (vL (W j))) bars chs lc ln pt Q n (nI i) r) (fun i r => ∀ k, k < i → r k = thr (vG (W j)) (vL (W j)) k) (vP (W j)) 0 hits (Nat.zero_le _) (fun k hk => absurd hk (Nat.not_lt_zero _)) (fun n r hr => ?_) (fun n i r hi hr ih => ?_)
    · refine pk_le (vP (W j)) (vP (W j)) (fun _ => ?_) (fun c => by omega)
      refine pk_loop (fun n i (r2 : Nat → Int64) => w_X7_setSeeking_94 (nI j) 1 (nI (vP (W j))) (nI (vL (W j))) bars r lc ln pt Q n (nI i) r2) (fun i r2 => ∀ k, k < i → r2 k = vG (W j) k) (vL (W j)) 0 chs (Nat.zero_le _) (fun k hk => absurd hk (Nat.not_lt_zero _)) (fun n r2 hr2 => ?_) (fun n i r2 hi hr2 ih => ?_)
      · exact pk_le (vL (W j)) (vL (W j)) (fun _ => m_setBars (G := vL (W j)) a2 hr (fun bars hb => k bars r2 r ⟨hb, hr2, hr⟩)) (fun c => by omega)
      · refine pk_le (vL (W j)) i (fun c => by omega) (fun _ => ⟨fun c => absurd c (by decide), fun _ => ⟨ix_in hj (by omega), in45 (by omega), ?_⟩⟩)
        rw [cl45 (by omega), nI_1, rd i hi]
        refine ih _ (fun q hq => ?_)
        by_cases e : q = i
        · rw [e, vp_updL_same]
        · rw [upL_ne e]; exact hr2 q (by omega)
    · refine pk_le (vP (W j)) i (fun c => by omega) (fun _ => ⟨fun c => absurd c (by decide), fun _ => m_through hj a3 (by omega) a6 ⟨in45 (by omega), ?_⟩⟩)
      rw [cl45 (by omega), nI_1, ht]
      refine ih _ (fun q hq => ?_)
      by_cases e : q = i
      · rw [e, vp_updL_same]
      · rw [upL_ne e]; exact hr q (by omega)
end
