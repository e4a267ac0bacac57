/-! the reference's calls, 4 -/
section
variable {W : AW} {ks lc ms pt : Nat → Int32} {ln : Nat → Int64} {R : AR} {rows sizes : Nat → Int32}
theorem m_sent {x : Int32} {m : Nat} (hm : m ≤ 45) {f sn : Nat → Int32} (h1 : ∀ p, p < m → sn p = f p) (h2 : ∀ p, m ≤ p → p < 45 → sn p = -9) {Q : Int32 → Prop} (s : sp_sent x m f Q) : w_X7_sent x sn Q := by
  refine m_inNum (N := 45) (by decide) (by decide) (fun p hp e => ⟨fun c => absurd c (by decide), fun _ => ⟨?_, ?_⟩⟩) (fun hn => ⟨fun _ => s.2 (fun z => hn ?_), fun c => absurd rfl c⟩)
  · rw [e]; exact in45 hp
  · show Q _
    rw [e, cl45 (by omega)]
    by_cases c : p < m
    · rw [h1 p c]; exact s.1 p c e
    · rw [h2 p (by omega) hp]
      refine s.2 ?_
      rintro ⟨q, hq, e2⟩
      have := (nI_eq (by omega) (by omega)).mp (e.symm.trans e2)
      omega
  · obtain ⟨q, hq, e⟩ := z
    exact ⟨q, by omega, e⟩
theorem m_in15 {x : Int32} {Q : Int32 → Prop} (ht : ∀ a, 1 ≤ a → a ≤ 5 → x = nI a → Q 1) (hf : (¬ ∃ a, 1 ≤ a ∧ a ≤ 5 ∧ x = nI a) → Q 0) : w_X7_in x 1 5 Q := by
  refine m_in (fun c d => ?_) (fun c => hf ?_)
  · have h0 : ¬ x < 0 := fun z => c (by
      rw [fa_lt] at z ⊢
      have e2 : (1 : Int32).toInt = 1 := by decide
      have e0 : (0 : Int32).toInt = 0 := by decide
      omega)
    obtain ⟨a, ha, rfl⟩ := nI_of h0
    have h1 : ¬ a < 1 := fun z => c ((nI_ltI ha (by decide)).mpr z)
    have h2 : ¬ 5 < a := fun z => d ((nI_ltI (by decide) ha).mpr z)
    exact ht a (by omega) (by omega) rfl
  · rintro ⟨a, h1, h2, rfl⟩
    rcases c with c | c
    · have := (nI_ltI (by omega) (by decide)).mp (show nI a < nI 1 from c); omega
    · have := (nI_ltI (by decide) (by omega)).mp (show nI 5 < nI a from c); omega
theorem m_findings {x : Int32} {fs : Nat → Int32} {Q : Int32 → Prop} (s : sp_findings x fs Q) : w_X7_findings x fs Q := by
  refine m_in15 (fun k h1 h2 e => ⟨fun c => absurd c (by decide), fun _ => ⟨?_, ?_⟩⟩) (fun hn => ⟨fun _ => s.2 hn, fun c => absurd rfl c⟩)
  · rw [e]; exact in6 (by omega)
  · show Q _
    have q := s.1 k h1 h2 e
    rw [e, cl45 (by omega)]
    exact q
theorem m_line (h : MW W ks lc ln ms pt) (hR : MR R rows sizes) {x r fd : Int32} {fs : Nat → Int32} {Q : Int32 → Int32 → (Nat → Int32) → (Nat → Int32) → (Nat → Int64) → Prop} (s : sp_line W R x r fd fs (fun r fd fs W' => ∀ lc ln, MW W' ks lc ln ms pt → Q r fd fs lc ln)) : w_X7_line x r fd fs ks lc ln pt rows sizes Q := by
  refine m_isNumber (fun j hj e => ⟨fun c => absurd c (by decide), fun _ => ?_⟩) (fun hn => ⟨fun _ => s.1 (fun z => hn z.1) _ _ h, fun c => absurd rfl c⟩)
  refine m_isRow (fun a ha ea => ⟨fun _ => ?_, fun c => absurd c (by decide)⟩) (fun hn => ⟨fun c => absurd rfl c, fun _ => s.1 (fun z => hn z.2) _ _ h⟩)
  obtain ⟨s1, s2⟩ := s.2 j a hj ha e ea
  subst e; subst ea
  have hbP : vP (W j) ≤ 45 := by rcases h.1 j hj with z | z <;> omega
  have rest : ¬ (vP (W j) ≠ 0 ∧ vL (W j) = 45) → w_X7_line_39 (nI j) (nI a) fd fs ks lc ln pt rows sizes Q := by
    intro hnf
    obtain ⟨s3, s4⟩ := s2 hnf
    refine ⟨in6 hj, ?_⟩
    rw [cl45 (by omega), MW_pt0 h hj]
    refine ⟨fun c => m_meets (k := 1) (by decide) (s3 (Or.inl c) _ _ h), fun c => ⟨in4 ha, ?_⟩⟩
    rw [cl45 (by omega), pl_iff, MR_0 hR ha]
    refine ⟨fun d => ⟨in6 hj, ?_⟩, fun d => m_meets (k := 1) (by decide) (s3 (Or.inr (Classical.not_not.mp d)) _ _ h)⟩
    have hb := hR.1 a ha
    obtain ⟨n, hn⟩ : ∃ n, rN (R a) = n + 1 := ⟨rN (R a) - 1, by omega⟩
    obtain ⟨s5, s6⟩ := s4 n c hn
    obtain ⟨c1, c2⟩ := (hR.2 a ha).2 n hn
    obtain ⟨a1, a2, a3, a4, a5, a6, a7, a8, a9, a10⟩ := MW_at h hj c
    rw [a7]
    refine ⟨fun hk => ?_, fun hk => m_meets (k := 3) (by decide) (s5 hk _ _ h)⟩
    obtain ⟨s7, s8⟩ := s6 hk
    have hL : vL (W j) ≠ 45 := fun z => hnf ⟨c, z⟩
    refine pk_loop (fun n2 i (s : Int64 × Int32) => w_X7_line_86 (nI j) (nI a) fd fs ks lc ln pt rows sizes Q n2 s.1 s.2 (nI i)) (fun i s => ((∀ p, p < i → num (rV (R a) p) (vP (W j))) → s = (stR (rV (R a)) i, 1)) ∧ ((¬ ∀ p, p < i → num (rV (R a) p) (vP (W j))) → s.2 = 0)) n 0 (0, 1) (Nat.zero_le _) ⟨fun _ => rfl, fun z => absurd (fun p hp => by omega) z⟩ (fun n2 s hs' => ?_) (fun n2 i s hi hs' ih => ?_)
    · obtain ⟨y, th⟩ := s
      refine ⟨in4 ha, ?_⟩
      rw [cl45 (by omega), c1]
      refine pk_le n n (fun _ => ⟨fun d => ?_, fun d => ?_⟩) (fun c => by omega)
      · have hall : ∀ p, p < n → num (rV (R a) p) (vP (W j)) := Classical.byContradiction fun zz => d (hs'.2 zz)
        have e := hs'.1 hall
        have e1 : y = stR (rV (R a)) n := congrArg Prod.fst e
        subst e1
        obtain ⟨s9, s10⟩ := s8 hall
        have hin : ∀ k, hs (stR (rV (R a)) n) k = true → k < vP (W j) := fun k hk => by
          obtain ⟨i, -, -, h6⟩ := (hs_stR a2 k n hall).mp hk
          exact h6
        have hpl := pop_le (stR (rV (R a)) n)
        refine m_bits (not45 a2 hin) (pk_le 2 (pop (stR (rV (R a)) n)) (fun d => ⟨in6 hj, ?_⟩) (fun d => m_meets (k := 5) (by decide) (s9 d _ _ h)))
        rw [cl45 (by omega), a6, upd_same]
        refine ⟨ix_in hj (by omega), in6 hj, in6 hj, in6 hj, ?_⟩
        rw [nI_1, nI_pred, ix_e, nI_clamp (by omega)]
        refine s10 d _ _ ⟨upW_ok h.1 (lnV_ok (h.1 j hj) c hL hall d), fun i hi => ?_⟩
        unfold upW
        by_cases e : i = j
        · subst e
          rw [if_pos rfl, upd_same]
          refine ⟨a5, fun _ => ⟨rfl, a7, a8, fun l hl => ?_⟩⟩
          show mg (vp_updL ln _ _) i l = vp_updL (vG (W i)) (vL (W i)) _ l
          unfold mg vp_updL
          by_cases e : l = vL (W i)
          · rw [if_pos (by omega), if_pos e]
          · rw [if_neg (by omega), if_neg e]
            exact a9 l (by have : l < vL (W i) + 1 := hl; omega)
        · rw [if_neg e, upd_ne e]
          obtain ⟨b1, b2⟩ := h.2 i hi
          refine ⟨b1, fun z => ?_⟩
          obtain ⟨b3, b4, b5, b6⟩ := b2 z
          refine ⟨b3, b4, b5, fun l hl => ?_⟩
          have hb : vL (W i) ≤ 45 := by
            rcases h.1 i hi with zz | zz
            · exact absurd zz z
            · exact zz.2.1
          rw [← b6 l hl]
          unfold mg vp_updL
          rw [if_neg (by omega)]
      · exact m_meets (k := 2) (by decide) (s7 (fun zz => by
          have := hs'.1 zz
          rw [this] at d
          exact absurd (show (1 : Int32) = 0 from d) (by decide)) _ _ h)
    · obtain ⟨y, th⟩ := s
      refine ⟨in4 ha, ?_⟩
      rw [cl45 (by omega), c1]
      refine pk_le n i (fun c => by omega) (fun _ => ⟨rx_in ha (by omega), ?_⟩)
      rw [rx_c (l := i) ha (by omega) rows, c2 i hi]
      have go0 : ¬ (∀ p, p < i + 1 → num (rV (R a) p) (vP (W j))) → ∀ y', w_X7_line_86 (nI j) (nI a) fd fs ks lc ln pt rows sizes Q n2 y' 0 (nI i + 1) := fun zz y' => by
        rw [nI_1]
        exact ih (y', 0) ⟨fun z2 => absurd z2 zz, fun _ => rfl⟩
      refine ⟨fun d => ?_, fun d => ⟨in6 hj, ?_⟩⟩
      · have hno : ¬ ∀ p, p < i → num (rV (R a) p) (vP (W j)) := fun zz => by
          have := congrArg Prod.snd (hs'.1 zz)
          rw [show th = 1 from this] at d
          exact absurd (show (1 : Int32) = 0 from d) (by decide)
        refine ⟨fun _ => go0 (fun zz => hno (fun p hp => zz p (by omega))) _, fun c => absurd rfl c⟩
      · have hall : ∀ p, p < i → num (rV (R a) p) (vP (W j)) := Classical.byContradiction fun zz => d (hs'.2 zz)
        have e1 : y = stR (rV (R a)) i := congrArg Prod.fst (hs'.1 hall)
        subst e1
        rw [cl45 (by omega), a5]
        refine m_inNum (N := vP (W j)) (by omega) rfl (fun p hp e => ⟨fun c => absurd c (by decide), fun _ => ⟨fun c => absurd c (by decide), fun _ => ?_⟩⟩) (fun hn => ⟨fun _ => ⟨fun _ => go0 (fun zz => hn (zz i (by omega))) _, fun c => absurd rfl c⟩, fun c => absurd rfl c⟩)
        show w_X7_line_86 _ _ _ _ _ _ _ _ _ _ Q n2 (stR (rV (R a)) i ||| vshl 1 (rV (R a) i)) 1 (nI i + 1)
        rw [nI_1]
        refine ih (stR (rV (R a)) (i + 1), 1) ⟨fun _ => rfl, fun zz => absurd (fun q hq => ?_) zz⟩
        by_cases e2 : q = i
        · rw [e2]; exact ⟨p, hp, e⟩
        · exact hall q (by omega)
  refine ⟨in6 hj, ?_⟩
  rw [cl45 (by omega)]
  have e0 : pt j ≤ 0 ↔ vP (W j) = 0 := by
    rw [(h.2 j hj).1]
    constructor
    · intro z
      exact Classical.byContradiction fun z2 => nI_nle (by omega) (by omega) z
    · intro z; rw [z]; decide
  rw [e0]
  refine ⟨fun c => rest (fun z => z.1 c), fun c => ⟨in6 hj, ?_⟩⟩
  obtain ⟨a1, a2, a3, a4, a5, a6, a7, a8, a9, a10⟩ := MW_at h hj c
  rw [a6]
  exact ⟨fun d => rest (fun z => d (by rw [z.2]; rfl)), fun d => s1 c ((nI_eq (by omega) (by decide)).mp d) _ _ h⟩
theorem m_count (h : MW W ks lc ln ms pt) (hR : MR R rows sizes) {x : Int32} {Q : Int32 → Prop} (s : sp_count W R x Q) : w_X7_count x lc pt sizes Q := by
  have hv : ∀ j, j < 6 → vP (W j) ≤ 45 := fun j hj => by rcases h.1 j hj with z | z <;> omega
  -- what a world adds, by the number asked for
  have key : ∀ k : Nat, (∀ i, i < 3 → (x = nI i ↔ k = i)) → (x = 3 ↔ k = 3) → Q (if k < 4 then nI (if k = 3 then cnR R 4 else cnW W k 6) else -1) → w_X7_count x lc pt sizes Q := by
    intro k hk hk3 hq
    have e0 : x = 0 ↔ k = 0 := hk 0 (by omega)
    have e1 : x = 1 ↔ k = 1 := hk 1 (by omega)
    have e2 : x = 2 ↔ k = 2 := hk 2 (by omega)
    refine lpf (fun n j (a : Int32) => w_X7_count_4 x lc pt sizes Q n a (nI j)) (fun j => nI (cnW W k j)) 6 0 (Nat.zero_le _) (fun n => ?_) (fun n j _ hj ih => ?_)
    · refine pk_le 6 6 (fun _ => ?_) (fun c => by omega)
      refine lpf (fun n j (a : Int32) => w_X7_count_71 x lc pt sizes Q n a (nI j)) (fun j => nI (cnW W k 6 + if k = 3 then cnR R j else 0)) 4 0 (Nat.zero_le _) (fun n => ?_) (fun n j _ hj ih => ?_) |> fun z => by
        have e : (if k = 3 then cnR R 0 else 0) = 0 := by split <;> rfl
        rw [e, Nat.add_zero] at z
        exact z
      · refine pk_le 4 4 (fun _ => ?_) (fun c => by omega)
        have z3 : k = 3 → cnW W k 6 = 0 := fun e => by
          subst e
          show fb_sm _ 6 = 0
          have : ∀ n, fb_sm (fun j => cnV 3 (W j)) n = 0 := fun n => by
            induction n with
            | zero => rfl
            | succ n ih =>
              rw [fb_sm_succ, ih]
              show 0 + cnV 3 (W n) = 0
              unfold cnV
              rw [if_neg (by decide : ¬ (3 = 0)), if_neg (by decide : ¬ (3 = 1)), if_neg (by decide : ¬ (3 = 2))]
              split <;> rfl
          exact this 6
        refine m_inNum (N := 4) (by decide) (by decide) (fun i hi e => ⟨fun c => absurd c (by decide), fun _ => ?_⟩) (fun hn => ⟨fun _ => ?_, fun c => absurd rfl c⟩)
        · have hki : k = i := by
            by_cases c : i < 3
            · exact (hk i c).mp e
            · have : i = 3 := by omega
              subst this
              exact hk3.mp e
          subst hki
          rw [if_pos hi] at hq
          show Q _
          by_cases c : k = 3
          · rw [if_pos c] at hq ⊢
            rw [z3 c, Nat.zero_add]; exact hq
          · rw [if_neg c] at hq ⊢
            exact hq
        · have : ¬ k < 4 := fun c => hn (by
            by_cases c3 : k < 3
            · exact ⟨k, c, (hk k c3).mpr rfl⟩
            · have : k = 3 := by omega
              exact ⟨3, by omega, hk3.mpr this⟩)
          rw [if_neg this] at hq
          exact hq
      · refine pk_le 4 j (fun c => by omega) (fun _ => ⟨fun c => ?_, fun c => ⟨in4 hj, ?_⟩⟩)
        · have : k ≠ 3 := fun z => c (hk3.mpr z)
          rw [if_neg this] at ih
          rw [if_neg this]
          show w_X7_count_71 _ _ _ _ _ n (nI _ + 0) (nI j + 1)
          rw [nI_1, Int32.add_zero]; exact ih
        · have e3 : k = 3 := hk3.mp c
          rw [if_pos e3] at ih ⊢
          rw [cl45 (by omega), MR_0 hR hj]
          refine ⟨fun d => ?_, fun d => ?_⟩
          · show w_X7_count_71 _ _ _ _ _ n (nI _ + 0) (nI j + 1)
            rw [nI_1, Int32.add_zero]
            have : cnR R (j + 1) = cnR R j := by
              unfold cnR; rw [fb_ct_succ]; simp [d]
            rw [this] at ih
            exact ih
          · show w_X7_count_71 _ _ _ _ _ n (nI _ + 1) (nI j + 1)
            rw [nI_1, nI_1]
            have : cnR R (j + 1) = cnR R j + 1 := by
              unfold cnR; rw [fb_ct_succ]; simp [d]
            rw [this, ← Nat.add_assoc] at ih
            exact ih
    · refine pk_le 6 j (fun c => by omega) (fun _ => ⟨in6 hj, ?_⟩)
      rw [cl45 (by omega), MW_pt0 h hj]
      have stp : ∀ a, cnV k (W j) = a → w_X7_count_4 x lc pt sizes Q n (nI (cnW W k j) + nI a) (nI j + 1) := fun a ha => by
        rw [nI_1, nI_add, ← ha]
        exact ih
      refine ⟨fun c => ?_, fun c => stp 0 (by unfold cnV; rw [if_pos c])⟩
      obtain ⟨a1, a2, a3, a4, a5, a6, a7, a8, a9, a10⟩ := MW_at h hj c
      rw [e0, e1, e2]
      refine ⟨fun d0 => ⟨fun d1 => ⟨fun d2 => stp 0 ?_, fun d2 => ⟨in6 hj, ?_⟩⟩, fun d1 => ⟨in6 hj, ?_⟩⟩, fun d0 => stp 1 ?_⟩
      · unfold cnV; rw [if_neg c, if_neg d0, if_neg d1, if_neg d2]
      · rw [a6]
        exact stp _ (by unfold cnV; rw [if_neg c, if_neg (by omega), if_neg (by omega), if_pos d2])
      · rw [a5]
        exact stp _ (by unfold cnV; rw [if_neg c, if_neg (by omega), if_pos d1])
      · unfold cnV; rw [if_neg c, if_pos d0]
  by_cases hx : num x 4
  · obtain ⟨k, hk, e⟩ := hx
    refine key k (fun i hi => ?_) ?_ ?_
    · rw [e]; exact nI_eq (by omega) (by omega)
    · rw [e]; exact nI_eq (b := 3) (by omega) (by omega)
    · rw [if_pos hk]; exact s.2 k hk e
  · refine key 4 (fun i hi => ⟨fun e => absurd ⟨i, by omega, e⟩ hx, fun e => by omega⟩) ⟨fun e => absurd ⟨3, by omega, e⟩ hx, fun e => by omega⟩ ?_
    rw [if_neg (by omega)]
    exact s.1 hx
theorem m_digest (h : MW W ks lc ln ms pt) (hR : MR R rows sizes) {Q : Int64 → Prop} (s : sp_digest W R Q) : w_X7_digest ks lc ln pt rows sizes Q := by
  refine lpf (fun n j (a : Int64) => w_X7_digest_6 ks lc ln pt rows sizes Q n a (nI j)) (dgW W) 6 0 (Nat.zero_le _) (fun n => ?_) (fun n j _ hj ih => ?_)
  · refine pk_le 6 6 (fun _ => ?_) (fun c => by omega)
    refine lpf (fun n j (a : Int64) => w_X7_digest_117 ks lc ln pt rows sizes Q n a (nI j)) (dgR R (dgW W 6)) 4 0 (Nat.zero_le _) (fun n => ?_) (fun n j _ hj ih => ?_)
    · exact pk_le 4 4 (fun _ => s) (fun c => by omega)
    · refine pk_le 4 j (fun c => by omega) (fun _ => ⟨in4 hj, ?_⟩)
      rw [cl45 (by omega), pl_iff, MR_0 hR hj]
      have hb := hR.1 j hj
      refine ⟨fun c => ⟨in4 hj, ?_⟩, fun c => ?_⟩
      · obtain ⟨m, hm⟩ : ∃ n, rN (R j) = n + 1 := ⟨rN (R j) - 1, by omega⟩
        obtain ⟨c1, c2⟩ := (hR.2 j hj).2 m hm
        simp only [dgR] at ih
        rw [if_neg c, show rN (R j) - 1 = m by omega] at ih
        rw [c1]
        refine lpf (fun n i (a : Int64) => w_X7_digest_152 (nI j) ks lc ln pt rows sizes _ Q n a (nI i)) (dgI (rV (R j)) (31 * dgR R (dgW W 6) j + (nI m).toInt64)) m 0 (Nat.zero_le _) (fun n' => ?_) (fun n' i _ hi ih2 => ?_)
        · refine ⟨in4 hj, ?_⟩
          rw [cl45 (by omega), c1]
          refine pk_le m m (fun _ => ?_) (fun c => by omega)
          rw [nI_1]; exact ih
        · refine ⟨in4 hj, ?_⟩
          rw [cl45 (by omega), c1]
          refine pk_le m i (fun c => by omega) (fun _ => ⟨rx_in hj (by omega), fun y hy => ?_⟩)
          rw [rx_c (l := i) hj (by omega) rows, c2 i hi] at hy
          rw [nI_1, hy]; exact ih2
      · have c := Classical.not_not.mp c
        simp only [dgR] at ih
        rw [if_pos c] at ih
        have c1 := (hR.2 j hj).1 c
        refine ⟨1, in4 hj, ?_⟩
        rw [cl45 (by omega), c1]
        refine ⟨fun _ => ?_, fun d => absurd (by decide) d⟩
        rw [nI_1]; exact ih
  · refine pk_le 6 j (fun c => by omega) (fun _ => ⟨in6 hj, ?_⟩)
    rw [cl45 (by omega), MW_pt0 h hj]
    simp only [dgW] at ih
    refine ⟨fun c => ⟨in6 hj, in6 hj, in6 hj, fun y hy => ?_⟩, fun c => ?_⟩
    · obtain ⟨a1, a2, a3, a4, a5, a6, a7, a8, a9, a10⟩ := MW_at h hj c
      rw [if_neg c] at ih
      rw [a5, a6, a7] at hy
      rw [← hy] at ih
      refine lpf (fun n i (a : Int64) => w_X7_digest_73 (nI j) ks lc ln pt rows sizes _ Q n a (nI i)) (dgF (vG (W j)) y) (vL (W j)) 0 (Nat.zero_le _) (fun n' => ?_) (fun n' i _ hi ih2 => ?_)
      · refine ⟨in6 hj, ?_⟩
        rw [cl45 (by omega), a6]
        refine pk_le (vL (W j)) (vL (W j)) (fun _ => ?_) (fun c => by omega)
        show w_X7_digest_6 _ _ _ _ _ _ _ n _ (nI j + 1)
        rw [nI_1]; exact ih
      · refine ⟨in6 hj, ?_⟩
        rw [cl45 (by omega), a6]
        refine pk_le (vL (W j)) i (fun c => by omega) (fun _ => ⟨ix_in hj (by omega), ?_⟩)
        rw [ix_c (l := i) hj (by omega) ln, a9 i hi, nI_1]
        exact ih2
    · rw [if_pos c] at ih
      show w_X7_digest_6 _ _ _ _ _ _ _ n _ (nI j + 1)
      rw [nI_1]; exact ih
end
