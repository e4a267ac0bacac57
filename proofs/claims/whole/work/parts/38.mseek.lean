/-! the reference's search is the machine -/
theorem sInv_l {G N : Nat} {ch mt : Nat → Int64} (hc : chM G N ch mt) {s : SS} (h : sInv G N mt s) : sl s ≤ 46 := by
  by_cases h0 : sl s = 0
  · omega
  · obtain ⟨b1, b2, -⟩ := h (sl s - 1) (by omega)
    have hG := hc.1
    have : pop (sM s (sl s - 1)) ≤ 45 := by
      rw [pop_45 (fun i hh => bool_ff (fun z => by have := b1 i z; omega))]
      exact fb_ct_le _ _
    omega
theorem in47 {i : Nat} (h : i < 47) : vp_in (nI i) 47 := vp_in_nI h (by decide)
theorem m_goalAt {G p : Nat} (hG : G ≤ 45) (hp : p < 46) {met : Nat → Int64} {M : Int64} (e : met p = M) (hM : ∀ g, hs M g = true → g < G) {Q : Int32 → Prop} (h1 : M = blw G → Q (nI G)) (h2 : M ≠ blw G → Q (nI (gl G M))) : w_X7_goalAt (nI G) (nI p) met Q := by
  by_cases c : M = blw G
  · refine lpq (fun n i => w_X7_goalAt_2 (nI G) (nI p) met Q n (nI i)) G 0 (Nat.zero_le _) (fun n => ?_) (fun n i _ hi ih => ?_)
    · exact pk_le G G (fun _ => h1 c) (fun d => by omega)
    · refine pk_le G i (fun d => by omega) (fun _ => ⟨in47 (by omega), ?_⟩)
      rw [cl45 (by omega), e]
      refine m_has (by omega) (fun _ => ⟨fun d => absurd d (by decide), fun _ => ?_⟩) (fun b => ?_)
      · rw [nI_1]; exact ih
      · rw [c, hs_blw (by omega)] at b
        simp [hi] at b
  · obtain ⟨g1, g2, g3⟩ := gl_is hG hM c
    have h2 := h2 c
    generalize gl G M = g at h2 g1 g2 g3
    refine lpq (fun n i => w_X7_goalAt_2 (nI G) (nI p) met Q n (nI i)) g 0 (Nat.zero_le _) (fun n => ?_) (fun n i _ hi ih => ?_)
    · refine pk_le G g (fun d => by omega) (fun _ => ⟨in47 (by omega), ?_⟩)
      rw [cl45 (by omega), e]
      exact m_has (by omega) (fun b => by rw [g2] at b; cases b) (fun _ => ⟨fun _ => h2, fun d => absurd rfl d⟩)
    · refine pk_le G i (fun d => by omega) (fun _ => ⟨in47 (by omega), ?_⟩)
      rw [cl45 (by omega), e]
      refine m_has (by omega) (fun _ => ⟨fun d => absurd d (by decide), fun _ => ?_⟩) (fun b => by rw [g3 i hi] at b; cases b)
      rw [nI_1]; exact ih
def mRel (G N : Nat) (ch mt : Nat → Int64) (s : SS) (barred met : Nat → Int64) (taken : Nat → Int32) (tk : Nat → Nat) : Prop := ∀ p, p < sl s → met p = sM s p ∧ taken p = nI (tk p) - 1 ∧ tk p ≤ N ∧ (p + 1 < sl s → 1 ≤ tk p ∧ sM s p ≠ blw G) ∧ (∀ k, k < N → (hs (barred p) k = true ↔ ∃ q, q < p ∧ (k = tk q - 1 ∨ (mt (tk q - 1) &&& mt k) ≠ 0))) ∧ (∀ k, hs (sT s p) k = true ↔ ∃ q, q < p ∧ k = tk q - 1) ∧ (∀ g, hs (sM s p) g = true ↔ ∃ q, q < p ∧ hs (mt (tk q - 1)) g = true) ∧ (sM s p ≠ blw G → ∀ k, hs (sC s p) k = true ↔ tk p ≤ k ∧ k < N ∧ hs (ch (gl G (sM s p))) k = true ∧ (mt k &&& sM s p) = 0)
/-- what the reference's search reads -/
def mPar (G N : Nat) (ch mt bars chs hits : Nat → Int64) : Prop := (∀ k, k < N → ∀ j, hs (bars k) j = true ↔ j = k ∨ (j < N ∧ (mt k &&& mt j) ≠ 0)) ∧ (∀ g, g < G → chs g = ch g) ∧ ∀ k, k < N → hits k = mt k
theorem pp_rel {G N : Nat} {ch mt : Nat → Int64} {s : SS} {barred met : Nat → Int64} {taken : Nat → Int32} {tk : Nat → Nat} (h : mRel G N ch mt s barred met taken tk) : mRel G N ch mt (ppS s) barred met taken tk := fun p hp => by
  have hp' : p < sl s - 1 := hp
  obtain ⟨a1, a2, a3, a4, a5⟩ := h p (by omega)
  exact ⟨a1, a2, a3, fun z => a4 (by have : p + 1 < sl s - 1 := z; omega), a5⟩
theorem ps_rel {G N : Nat} {ch mt bars chs hits : Nat → Int64} (hc : chM G N ch mt) (hpar : mPar G N ch mt bars chs hits) {s : SS} (hi : sInv G N mt s) {barred met : Nat → Int64} {taken : Nat → Int32} {tk : Nat → Nat} (h : mRel G N ch mt s barred met taken tk) (hl : 1 ≤ sl s) (hM : sM s (sl s - 1) ≠ blw G) (h0 : sC s (sl s - 1) ≠ 0) {k : Nat} (hk : lst (sC s (sl s - 1)) = k) : mRel G N ch mt (psS G ch mt s) (vp_updL barred (sl s) (barred (sl s - 1) ||| bars k)) (vp_updL met (sl s) (met (sl s - 1) ||| hits k)) (upd (upd taken (sl s - 1) (nI k)) (sl s) (-1)) (fun p => if p = sl s - 1 then k + 1 else if p = sl s then 0 else tk p) := by
  obtain ⟨i1, i2, i3⟩ := ps_inv hc hi hl h0
  obtain ⟨k1, k2⟩ := lst_in h0
  rw [hk] at i2 k1 k2
  have hN := hc.2.1
  obtain ⟨a1, a2, a3, a4, a5, a6, a7, a8⟩ := h (sl s - 1) (by omega)
  have a8 := a8 hM
  unfold psS
  rw [hk]
  obtain ⟨e1, e2, e3, e4⟩ := op_lMT (G := G) (ch := ch) (mt := mt) (l := sl s + 1) (t := st s + 1) (f := sf s) (q := sq s) (M := vp_updL (sM s) (sl s) (sM s (sl s - 1) ||| mt k)) (T := vp_updL (sT s) (sl s) (sT s (sl s - 1) ||| vshl 1 (nI k))) (C := vp_updL (sC s) (sl s - 1) (sC s (sl s - 1) &&& (vshl 1 (nI k) ^^^ (-1))))
  generalize hl' : sl s = l at *
  obtain ⟨m, rfl⟩ : ∃ m, l = m + 1 := ⟨l - 1, by omega⟩
  rw [Nat.add_sub_cancel] at *
  have tk_m : (if m = m then k + 1 else if m = m + 1 then 0 else tk m) = k + 1 := if_pos rfl
  have tk_l : ∀ q, q < m → (if q = m then k + 1 else if q = m + 1 then 0 else tk q) = tk q := fun q hq => by rw [if_neg (by omega), if_neg (by omega)]
  -- an old place's sums
  have old : ∀ (p : Nat), p ≤ m → ∀ (F : Nat → Prop), (∃ q, q < p ∧ F ((if q = m then k + 1 else if q = m + 1 then 0 else tk q) - 1)) ↔ ∃ q, q < p ∧ F (tk q - 1) := fun p hp F => by
    constructor
    · rintro ⟨q, hq, z⟩
      rw [tk_l q (by omega)] at z
      exact ⟨q, hq, z⟩
    · rintro ⟨q, hq, z⟩
      refine ⟨q, hq, ?_⟩
      rw [tk_l q (by omega)]
      exact z
  have new : ∀ (F : Nat → Prop), (∃ q, q < m + 1 ∧ F ((if q = m then k + 1 else if q = m + 1 then 0 else tk q) - 1)) ↔ (∃ q, q < m ∧ F (tk q - 1)) ∨ F k := fun F => by
    constructor
    · rintro ⟨q, hq, z⟩
      by_cases c : q = m
      · rw [if_pos c, Nat.add_sub_cancel] at z
        exact Or.inr z
      · rw [tk_l q (by omega)] at z
        exact Or.inl ⟨q, by omega, z⟩
    · rintro (⟨q, hq, z⟩ | z)
      · refine ⟨q, by omega, ?_⟩
        rw [tk_l q hq]
        exact z
      · refine ⟨m, by omega, ?_⟩
        rw [if_pos rfl, Nat.add_sub_cancel]
        exact z
  intro p hp
  rw [e1] at hp
  show _ ∧ _ ∧ _ ∧ (p + 1 < sl _ → _) ∧ _
  rw [e1, e3, e4]
  have bt : ∀ q, (fun p => if p = m then k + 1 else if p = m + 1 then 0 else tk p) q = if q = m then k + 1 else if q = m + 1 then 0 else tk q := fun _ => rfl
  simp only [bt]
  by_cases c : p = m + 1
  · subst c
    rw [vp_updL_same, vp_updL_same, vp_updL_same, vp_updL_same, upd_same]
    refine ⟨?_, ?_, ?_, fun z => absurd z (by omega), fun j hj => ?_, fun j => ?_, fun g => ?_, fun hne j => ?_⟩
    · rw [a1, hpar.2.2 k i2]
    · rw [if_neg (by omega), if_pos rfl]; decide
    · rw [if_neg (by omega), if_pos rfl]; exact Nat.zero_le _
    · rw [new (fun x => j = x ∨ (mt x &&& mt j) ≠ 0), hs_or, Bool.or_eq_true, a5 j hj, hpar.1 k i2 j]
      refine or_congr Iff.rfl (or_congr Iff.rfl ⟨fun z => z.2, fun z => ⟨hj, z⟩⟩)
    · rw [new (fun x => j = x), hs_or, Bool.or_eq_true, a6 j, hs_one (by omega)]
      simp
    · rw [new (fun x => hs (mt x) g = true), hs_or, Bool.or_eq_true, a7 g]
    · rw [if_neg (by omega), if_pos rfl]
      unfold opS
      rw [if_neg (by rw [Nat.add_sub_cancel, vp_updL_same]; exact hne)]
      show hs (vp_updL _ (m + 1 + 1 - 1) _ (m + 1)) j = true ↔ _
      rw [Nat.add_sub_cancel, vp_updL_same, vp_updL_same, hs_cdF _ _ _ _ _ (by omega)]
      have hgM : ∀ g, hs (sM s m ||| mt k) g = true → g < G := by
        have := (i1 (m + 1) (by rw [ps_l.1, hl']; omega)).1
        unfold psS at this
        rw [hl', Nat.add_sub_cancel, hk, e3, vp_updL_same] at this
        exact this
      obtain ⟨g1, -, -⟩ := gl_is hc.1 hgM hne
      constructor
      · rintro ⟨z1, z2, z3⟩
        exact ⟨Nat.zero_le _, (hc.2.2.1 _ g1 j z2).1, z2, z3⟩
      · rintro ⟨-, z1, z2, z3⟩
        exact ⟨by omega, z2, z3⟩
  · have hpm : p ≤ m := by omega
    obtain ⟨b1, b2, b3, b4, b5, b6, b7, b8⟩ := h p (by omega)
    rw [upL_ne c, upL_ne c, upL_ne c, upL_ne c, upd_ne c]
    have hsC : sC (opS G ch mt (m + 1 + 1) (st s + 1) (sf s) (sq s) (vp_updL (sM s) (m + 1) (sM s m ||| mt k)) (vp_updL (sT s) (m + 1) (sT s m ||| vshl 1 (nI k))) (vp_updL (sC s) m (sC s m &&& (vshl 1 (nI k) ^^^ (-1))))) p = vp_updL (sC s) m (sC s m &&& (vshl 1 (nI k) ^^^ (-1))) p := by
      unfold opS
      split
      · exact upL_ne (by omega)
      · exact upL_ne (by omega)
    rw [hsC]
    have common : (∀ j, j < N → (hs (barred p) j = true ↔ ∃ q, q < p ∧ (j = (if q = m then k + 1 else if q = m + 1 then 0 else tk q) - 1 ∨ (mt ((if q = m then k + 1 else if q = m + 1 then 0 else tk q) - 1) &&& mt j) ≠ 0))) ∧ (∀ j, hs (sT s p) j = true ↔ ∃ q, q < p ∧ j = (if q = m then k + 1 else if q = m + 1 then 0 else tk q) - 1) ∧ (∀ g, hs (sM s p) g = true ↔ ∃ q, q < p ∧ hs (mt ((if q = m then k + 1 else if q = m + 1 then 0 else tk q) - 1)) g = true) :=
      ⟨fun j hj => (b5 j hj).trans (old p hpm (fun x => j = x ∨ (mt x &&& mt j) ≠ 0)).symm, fun j => (b6 j).trans (old p hpm (fun x => j = x)).symm, fun g => (b7 g).trans (old p hpm (fun x => hs (mt x) g = true)).symm⟩
    by_cases c2 : p = m
    · subst c2
      rw [upd_same, vp_updL_same, if_pos rfl]
      refine ⟨b1, (nI_pred k).symm, by omega, fun _ => ⟨by omega, hM⟩, common.1, common.2.1, common.2.2, fun hne j => ?_⟩
      rw [hs_and, Bool.and_eq_true, b8 hne j]
      have hkk := (b8 hne k).mp k1
      by_cases hj : j < 64
      · rw [hs_not _ hj, hs_one (by omega)]
        constructor
        · rintro ⟨⟨z1, z2, z3, z4⟩, z5⟩
          have hne' : j ≠ k := by simpa using z5
          have hge : ¬ j < k := fun z => by
            have := k2 j z
            rw [(b8 hne j).mpr ⟨z1, z2, z3, z4⟩] at this; cases this
          exact ⟨by omega, z2, z3, z4⟩
        · rintro ⟨z1, z2, z3, z4⟩
          refine ⟨⟨by omega, z2, z3, z4⟩, ?_⟩
          have : j ≠ k := by omega
          simp [this]
      · constructor
        · rintro ⟨⟨-, z2, -, -⟩, -⟩; omega
        · rintro ⟨-, z2, -, -⟩; omega
    · rw [upd_ne c2, upL_ne c2, if_neg c2, if_neg c]
      exact ⟨b1, b2, b3, fun _ => b4 (by omega), common.1, common.2.1, common.2.2, b8⟩
