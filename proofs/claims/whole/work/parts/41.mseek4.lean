theorem s0_rel {G N : Nat} {ch mt : Nat → Int64} (hc : chM G N ch mt) (z : Z4) (barred met : Nat → Int64) (taken : Nat → Int32) : mRel G N ch mt (s0 G ch mt z.1 z.2.1 z.2.2.1 z.2.2.2) (vp_updL barred 0 0) (vp_updL met 0 0) (upd taken 0 (-1)) (fun _ => 0) := by
  intro p hp
  unfold s0 at hp ⊢
  rw [op_lMT.1] at hp
  have : p = 0 := by omega
  subst this
  rw [op_lMT.1, op_lMT.2.2.1, op_lMT.2.2.2]
  rw [vp_updL_same, vp_updL_same, vp_updL_same, vp_updL_same, upd_same]
  refine ⟨rfl, by decide, Nat.zero_le _, fun z => absurd z (by omega), fun k _ => ?_, fun k => ?_, fun k => ?_, fun hne k => ?_⟩
  · rw [hs_0]
    exact ⟨fun z => (by cases z), fun ⟨q, hq, _⟩ => absurd hq (Nat.not_lt_zero _)⟩
  · rw [hs_0]
    exact ⟨fun z => (by cases z), fun ⟨q, hq, _⟩ => absurd hq (Nat.not_lt_zero _)⟩
  · rw [hs_0]
    exact ⟨fun z => (by cases z), fun ⟨q, hq, _⟩ => absurd hq (Nat.not_lt_zero _)⟩
  · unfold opS
    rw [if_neg (by show vp_updL _ 0 0 0 ≠ _; rw [vp_updL_same]; exact hne)]
    show hs (vp_updL z.2.2.2 0 (cdF (ch (gl G (vp_updL z.2.1 0 0 0))) mt (vp_updL z.2.1 0 0 0) 45) 0) k = true ↔ _
    rw [vp_updL_same, vp_updL_same, hs_cdF _ _ _ _ _ (by omega)]
    obtain ⟨g1, -, -⟩ := gl_is hc.1 (fun g hg => by rw [hs_0] at hg; cases hg) hne
    have hN := hc.2.1
    constructor
    · rintro ⟨z1, z2, z3⟩
      exact ⟨Nat.zero_le _, (hc.2.2.1 _ g1 k z2).1, z2, z3⟩
    · rintro ⟨-, z1, z2, z3⟩
      exact ⟨by omega, z2, z3⟩
theorem m_inT {x : Int32} {Q : Int32 → Prop} (ht : ∀ a, 1 ≤ a → a ≤ 100000 → x = nI a → Q 1) (hf : ¬ numT x → Q 0) : w_X7_in x 1 100000 Q := by
  refine m_in (fun c d => ?_) (fun c => hf ?_)
  · have h0 : ¬ x < 0 := fun z => c (by
      rw [fa_lt] at z ⊢
      have e2 : (1 : Int32).toInt = 1 := by decide
      have e0 : (0 : Int32).toInt = 0 := by decide
      omega)
    obtain ⟨a, ha, rfl⟩ := nI_of h0
    have h1 : ¬ a < 1 := fun z => c ((nI_ltI ha (by decide)).mpr z)
    have h2 : ¬ 100000 < a := fun z => d ((nI_ltI (by decide) ha).mpr z)
    exact ht a (by omega) (by omega) rfl
  · rintro ⟨a, h1, h2, rfl⟩
    rcases c with c | c
    · have := (nI_ltI (by omega) (by decide)).mp (show nI a < nI 1 from c); omega
    · have := (nI_ltI (by decide) (by omega)).mp (show nI 100000 < nI a from c); omega
/-- the set of what is taken, made of it -/
theorem orS_eq {tk : Nat → Nat} {L : Nat} {x : Int64} (h : ∀ p, p < L → tk p < 64) (hx : ∀ k, hs x k = true ↔ ∃ p, p < L ∧ k = tk p) : orS tk L = x := hs_iff (fun k _ => (hs_orS tk k L h).trans (hx k).symm)
theorem s0_l {G : Nat} {ch mt : Nat → Int64} {q : Int64} {M T C : Nat → Int64} : sl (s0 G ch mt q M T C) = 1 ∧ st (s0 G ch mt q M T C) = 0 ∧ sM (s0 G ch mt q M T C) 0 = 0 := by
  unfold s0
  rw [op_lMT.1, op_lMT.2.1, op_lMT.2.2.1, vp_updL_same]
  exact ⟨rfl, rfl, rfl⟩
theorem s0_found {G : Nat} {ch mt : Nat → Int64} {q : Int64} {M T C : Nat → Int64} (h : 0 = blw G) : sf (s0 G ch mt q M T C) = 1 ∧ sq (s0 G ch mt q M T C) = 0 ∧ sC (s0 G ch mt q M T C) 0 = 0 := by
  unfold s0 opS
  rw [if_pos (by rw [show 1 - 1 = 0 from rfl, vp_updL_same]; exact h)]
  exact ⟨rfl, vp_updL_same T 0 0, vp_updL_same C 0 0⟩
theorem s0_not {G : Nat} {ch mt : Nat → Int64} {q : Int64} {M T C : Nat → Int64} (h : 0 ≠ blw G) : sf (s0 G ch mt q M T C) = 0 := by
  unfold s0 opS
  rw [if_neg (by rw [show 1 - 1 = 0 from rfl, vp_updL_same]; exact h)]
abbrev QS : Type := Int32 → Int32 → Int64 → Int32 → Int32 → Int32 → Int32 → (Nat → Int64) → (Nat → Int64) → (Nat → Int64) → (Nat → Int32) → (Nat → Int64) → (Nat → Int64) → (Nat → Int32) → Prop
section
variable {W : AW} {ks lc ms pt : Nat → Int32} {ln : Nat → Int64}
theorem m_seek (h : MW W ks lc ln ms pt) {b : Bool} {z : Z4} {x n fd tr z1 z2 z3 : Int32} {ask : Int64} {fs : Nat → Int32} {barred bars chs hits met : Nat → Int64} {taken : Nat → Int32} {Q : QS} (s : sp_seek b z W x n fd tr ask fs (fun r fd tr ask fs => ∀ z1 z2 z3 barred bars chs hits met taken, Q r fd ask tr z1 z2 z3 barred bars chs fs hits met taken)) : w_X7_seek x n (if b then 1 else 0) fd ask tr z1 z2 z3 barred bars chs fs hits lc ln met pt taken Q := by
  refine m_isNumber (fun j hj e => ⟨fun c => absurd c (by decide), fun _ => ?_⟩) (fun hn => ⟨fun _ => ?_, fun c => absurd rfl c⟩)
  rotate_left
  · by_cases ht : numT n
    · obtain ⟨k, h1, h2, e⟩ := ht
      exact (s.2 k h1 h2 e).1 hn _ _ _ _ _ _ _ _ _
    · exact s.1 ht _ _ _ _ _ _ _ _ _
  refine m_inT (fun k hk1 hk2 ek => ⟨fun _ => ?_, fun c => absurd c (by decide)⟩) (fun hn => ⟨fun c => absurd rfl c, fun _ => s.1 hn _ _ _ _ _ _ _ _ _⟩)
  refine m_lk h (s.2 k hk1 hk2 ek) (fun r fd' fs' hr q => bar_no hr (q _ _ _ _ _ _ _ _ _)) (fun j' hj' e' h0 q => bar_yes ?_)
  have ej : j' = j := (nI_eq (by omega) (by omega)).mp (e'.symm.trans e)
  subst ej
  subst e; subst ek
  obtain ⟨a1, a2, a3, a4, a5, a6, a7, a8, a9, a10⟩ := MW_at h hj h0
  have hc := sv_chM (b := b) a2 a3 a4
  refine m_setSeeking h hj h0 (fun bars chs hits hpar => ?_)
  obtain ⟨q6, q91⟩ := q
  obtain ⟨d1, d2, d3⟩ := s0_l (G := svG b (W j')) (ch := svC b (W j')) (mt := svM b (W j')) (q := z.1) (M := z.2.1) (T := z.2.2.1) (C := z.2.2.2)
  have hN := hc.2.1
  have hG := hc.1
  have hi := s0_inv hc z.1 z.2.1 z.2.2.1 z.2.2.2
  have hrel := s0_rel hc z barred met taken
  have z0 : (0 : Int32).toNatClampNeg = 0 := by decide
  unfold skv at q6 q91
  refine ⟨fun c => absurd c (by decide), fun _ => ⟨in47 (i := 0) (by omega), in47 (i := 0) (by omega), in46 (i := 0) (by omega), ?_⟩⟩
  rw [z0]
  -- behind what is found
  have fin : ∀ (tr : Int32) (L : Nat) (x : Int64) (b' m : Nat → Int64) (t : Nat → Int32) (tk : Nat → Nat), L ≤ 45 → pop x = L → (∀ p, p < L → t p = nI (tk p) ∧ tk p < 64) → (∀ k, hs x k = true ↔ ∃ p, p < L ∧ k = tk p) → (∀ z1 z2 z3 barred bars chs hits met taken, Q (nI (pop x)) fd x tr z1 z2 z3 barred bars chs fs hits met taken) → ∃ n, w_X7_seek_78 fd ask tr (nI (svN b (W j'))) (nI (svG b (W j'))) (nI L) b' bars chs fs hits lc ln m pt t Q n 0 0 := by
    intro tr L x b' m t tk hL hp ht hx hq
    refine lpf (fun n i (a : Int64) => w_X7_seek_78 fd ask tr (nI (svN b (W j'))) (nI (svG b (W j'))) (nI L) b' bars chs fs hits lc ln m pt t Q n a (nI i)) (orS tk) L 0 (Nat.zero_le _) (fun n => ?_) (fun n i _ hi ih => ?_)
    · refine pk_le L L (fun _ => ?_) (fun c => by omega)
      rw [orS_eq (fun p hp => (ht p hp).2) hx]
      have := hq (nI (svN b (W j'))) (nI (svG b (W j'))) (nI L) b' bars chs hits m t
      rw [hp] at this
      exact this
    · refine pk_le L i (fun c => by omega) (fun _ => ⟨in46 (by omega), ?_⟩)
      rw [cl45 (by omega), (ht i hi).1, nI_1]
      exact ih
  by_cases hf : (0 : Int64) = blw (svG b (W j'))
  · obtain ⟨f1, f2, f3⟩ := s0_found (ch := svC b (W j')) (mt := svM b (W j')) (q := z.1) (M := z.2.1) (T := z.2.2.1) (C := z.2.2.2) hf
    rw [skr, if_neg (by omega), if_pos ⟨by omega, rfl⟩] at q91
    have hq := (q91 rfl).2 (by show sf _ ≠ 0; omega)
    have r := hrel 0 (by omega)
    refine ⟨1, fun c => absurd c (by decide), fun _ => m_goalAt (p := 0) hG (by omega) r.1 (fun g hg => by rw [d3, hs_0] at hg; cases hg) (fun _ => ⟨fun c => absurd rfl c, fun _ => ⟨fun _ => ?_, fun c => absurd (by decide) c⟩⟩) (fun c => absurd (d3.trans hf) c)⟩
    change ∀ z1 z2 z3 barred bars chs hits met taken, Q (nI (pop (sq _))) fd (sq _) (nI (st _)) z1 z2 z3 barred bars chs fs hits met taken at hq
    rw [f2, d2] at hq
    refine fin _ 0 0 _ _ _ (fun _ => 0) (by omega) pop_zero (fun p hp => absurd hp (Nat.not_lt_zero _)) (fun k => ⟨fun z => (by rw [hs_0] at z; cases z), fun ⟨p, hp, _⟩ => absurd hp (Nat.not_lt_zero _)⟩) hq
  · have := m_nextA hc hpar hk2 (Q := fun (r_48 : Int32) (u_48_0 : Int32) (u_48_1 : Int32) (u_48_2 : Nat → Int64) (u_48_3 : Nat → Int64) (u_48_4 : Nat → Int32) => ((1 ≤ r_48 → (∃ n_, w_X7_seek_78 fd ask u_48_0 (nI (svN b (W j'))) (nI (svG b (W j'))) u_48_1 u_48_2 bars chs fs hits lc ln u_48_3 pt u_48_4 Q n_ 0 0)) ∧ (¬ 1 ≤ r_48 → ((0 ≤ r_48 → (w_X7_seek_71 (-9) fd ask u_48_0 (nI (svN b (W j'))) (nI (svG b (W j'))) u_48_1 u_48_2 bars chs fs hits lc ln u_48_3 pt u_48_4 Q)) ∧ (¬ 0 ≤ r_48 → (w_X7_seek_71 r_48 fd ask u_48_0 (nI (svN b (W j'))) (nI (svG b (W j'))) u_48_1 u_48_2 bars chs fs hits lc ln u_48_3 pt u_48_4 Q)))))) (2 * k + 2) (s0 (svG b (W j')) (svC b (W j')) (svM b (W j')) z.1 z.2.1 z.2.2.1 z.2.2.2) hi (by omega) (s0_not hf) (by omega) (fun _ => by rw [d1]; show sM _ 0 ≠ _; rw [d3]; exact hf) _ _ _ _ hrel (fun h6 l b m t => ?_) (fun h0 h9 l b m t => ?_) (fun h0 h1 L b m t tk hL hp ht hx => ?_)
    · rw [d1, d2, show nI 1 - 1 = 0 from by decide] at this
      exact this
    · exact ⟨fun c => absurd c (by decide), fun _ => ⟨fun c => absurd c (by decide), fun _ => q6 h6 _ _ _ _ _ _ _ _ _⟩⟩
    · exact ⟨fun c => absurd c (by decide), fun _ => ⟨fun _ => (q91 h0).1 h9 _ _ _ _ _ _ _ _ _, fun c => absurd (by decide) c⟩⟩
    · exact ⟨fun _ => fin _ L _ b m t tk hL hp ht hx ((q91 h0).2 h1), fun c => absurd (by decide) c⟩
theorem m_ovoids (h : MW W ks lc ln ms pt) {z : Z4} {x n fd tr z1 z2 z3 : Int32} {ask : Int64} {fs : Nat → Int32} {barred bars chs hits met : Nat → Int64} {taken : Nat → Int32} {Q : QS} (s : sp_ovoids z W x n fd tr ask fs (fun r fd tr ask fs => ∀ z1 z2 z3 barred bars chs hits met taken, Q r fd ask tr z1 z2 z3 barred bars chs fs hits met taken)) : w_X7_ovoids x n fd ask tr z1 z2 z3 barred bars chs fs hits lc ln met pt taken Q := by
  refine m_isNumber (fun j hj e => ⟨fun c => absurd c (by decide), fun _ => ?_⟩) (fun hn => ⟨fun _ => ?_, fun c => absurd rfl c⟩)
  rotate_left
  · by_cases ht : numT n
    · obtain ⟨k, h1, h2, e⟩ := ht
      exact (s.2 k h1 h2 e).1 hn _ _ _ _ _ _ _ _ _
    · exact s.1 ht _ _ _ _ _ _ _ _ _
  refine m_inT (fun k hk1 hk2 ek => ⟨fun _ => ?_, fun c => absurd c (by decide)⟩) (fun hn => ⟨fun c => absurd rfl c, fun _ => s.1 hn _ _ _ _ _ _ _ _ _⟩)
  refine m_lk h (s.2 k hk1 hk2 ek) (fun r fd' fs' hr q => bar_no hr (q _ _ _ _ _ _ _ _ _)) (fun j' hj' e' h0 q => bar_yes ?_)
  have ej : j' = j := (nI_eq (by omega) (by omega)).mp (e'.symm.trans e)
  subst ej
  subst e; subst ek
  obtain ⟨a1, a2, a3, a4, a5, a6, a7, a8, a9, a10⟩ := MW_at h hj h0
  have hc := sv_chM (b := true) a2 a3 a4
  refine m_setSeeking (b := true) h hj h0 (fun bars chs hits hpar => ?_)
  obtain ⟨q6, q1⟩ := q
  obtain ⟨d1, d2, d3⟩ := s0_l (G := svG true (W j')) (ch := svC true (W j')) (mt := svM true (W j')) (q := z.1) (M := z.2.1) (T := z.2.2.1) (C := z.2.2.2)
  have hN := hc.2.1
  have hG := hc.1
  have hi := s0_inv hc z.1 z.2.1 z.2.2.1 z.2.2.2
  have hrel := s0_rel hc z barred met taken
  have z0 : (0 : Int32).toNatClampNeg = 0 := by decide
  unfold skv at q6 q1
  refine ⟨fun c => absurd c (by decide), fun _ => ⟨in47 (i := 0) (by omega), in47 (i := 0) (by omega), in46 (i := 0) (by omega), ?_⟩⟩
  rw [z0]
  have H : ∃ m, w_X7_next_43 (nI k) (nI (svN true (W j'))) (nI (svG true (W j'))) bars chs hits (fun r u0 u1 u2 u3 u4 => ∃ n_, w_X7_ovoids_53 (nI k) fd ask (nI (svN true (W j'))) (nI (svG true (W j'))) bars chs fs hits lc ln pt Q n_ 0 r u0 u1 u2 u3 u4) m 0 0 (vp_updL barred 0 0) (vp_updL met 0 0) (upd taken 0 (-1)) := by
    by_cases hf : (0 : Int64) = blw (svG true (W j'))
    · obtain ⟨f1, f2, f3⟩ := s0_found (ch := svC true (W j')) (mt := svM true (W j')) (q := z.1) (M := z.2.1) (T := z.2.2.1) (C := z.2.2.2) hf
      rw [skr, if_neg (by omega), if_neg (fun z => by cases z.2), d1, if_pos f3] at q1 q6
      have hB := m_nextB hc hpar hk2 (fd := fd) (ask := ask) (fs := fs) (lc := lc) (pt := pt) (ln := ln) (Q := Q) (2 * k + 1) (ppS (s0 (svG true (W j')) (svC true (W j')) (svM true (W j')) z.1 z.2.1 z.2.2.1 z.2.2.2)) (2 * k + 9) (by omega) (pp_inv hi) (by show st (s0 _ _ _ _ _ _ _) ≤ k; omega) (by show 2 * (k - st (s0 _ _ _ _ _ _ _)) + (sl (s0 _ _ _ _ _ _ _) - 1) < 2 * k + 1; omega) (fun c => by have : 1 ≤ sl (s0 _ _ _ _ _ _ _) - 1 := c; omega) _ _ _ _ (pp_rel hrel) (fun h l b m t => q6 h _ _ _ _ _ _ _ _ _) (fun h l b m t => q1 h _ _ _ _ _ _ _ _ _) (fun r u0 u1 u2 u3 u4 => w_X7_ovoids_53 (nI k) fd ask (nI (svN true (W j'))) (nI (svG true (W j'))) bars chs fs hits lc ln pt Q (2 * k + 9) 1 r u0 u1 u2 u3 u4) (fun r u0 u1 u2 u3 u4 z => by
        change w_X7_ovoids_53 _ _ _ _ _ _ _ _ _ _ _ _ _ _ (lN (sf (s0 _ _ _ _ _ _ _))) _ _ _ _ _ _ at z
        rw [f1] at z; exact z)
      obtain ⟨m, hm⟩ := hB
      have r := hrel 0 (by omega)
      refine ⟨1, fun c => absurd c (by decide), fun _ => m_goalAt (p := 0) hG (by omega) r.1 (fun g hg => by rw [d3, hs_0] at hg; cases hg) (fun _ => ⟨fun c => absurd rfl c, fun _ => ⟨2 * k + 10, ⟨fun c => absurd rfl c, fun _ => ⟨fun _ => ⟨m, ?_⟩, fun c => absurd rfl c⟩⟩⟩⟩) (fun c => absurd (d3.trans hf) c)⟩
      change w_X7_next_43 _ _ _ _ _ _ _ m (nI (st (s0 (svG true (W j')) (svC true (W j')) (svM true (W j')) z.1 z.2.1 z.2.2.1 z.2.2.2))) (nI (sl (s0 (svG true (W j')) (svC true (W j')) (svM true (W j')) z.1 z.2.1 z.2.2.1 z.2.2.2) - 1) - 1) _ _ _ at hm
      rw [d1, d2] at hm
      exact hm
    · have hB := m_nextB hc hpar hk2 (fd := fd) (ask := ask) (fs := fs) (lc := lc) (pt := pt) (ln := ln) (Q := Q) (2 * k + 2) (s0 (svG true (W j')) (svC true (W j')) (svM true (W j')) z.1 z.2.1 z.2.2.1 z.2.2.2) (2 * k + 10) (by omega) hi (by omega) (by omega) (fun _ => by rw [d1]; show sM _ 0 ≠ _; rw [d3]; exact hf) _ _ _ _ hrel (fun h l b m t => q6 h _ _ _ _ _ _ _ _ _) (fun h l b m t => q1 h _ _ _ _ _ _ _ _ _) (fun r u0 u1 u2 u3 u4 => ∃ n_, w_X7_ovoids_53 (nI k) fd ask (nI (svN true (W j'))) (nI (svG true (W j'))) bars chs fs hits lc ln pt Q n_ 0 r u0 u1 u2 u3 u4) (fun r u0 u1 u2 u3 u4 z => ⟨_, by rw [s0_not hf] at z; exact z⟩)
      rw [d1, d2, show nI 1 - 1 = 0 from by decide] at hB
      exact hB
  exact H
end
