abbrev SV : Type := Nat × (Nat → Int32)
abbrev Z3 : Type := (Nat → Int32) × (Nat → Int64) × (Nat → Int64)
def mkv (v w : AV) (n : Nat) (z : Z3) : MO := mkr (vG v) (vG w) (vP v) (vL v) n (2 * n + 2) (m0 (vG v) (vG w) (vP v) (vL v) z.1 z.2.1 z.2.2)
abbrev QK : Type := Int32 → Int32 → Int32 → (Nat → Int32) → SV → Prop
def sp_alike (z : Z3) (W : AW) (S : SV) (x y n fd tr : Int32) (fs : Nat → Int32) (Q : QK) : Prop := (¬ (num x 6 ∧ num y 6 ∧ numT n) → Q (-1) fd tr fs S) ∧ ∀ i j k, i < 6 → j < 6 → 1 ≤ k → k ≤ 100000 → x = nI i → y = nI j → n = nI k → (vP (W i) = 0 ∨ vP (W j) = 0 → Q (-3) 1 tr (fnd fs 1) S) ∧ (vP (W i) ≠ 0 → vP (W j) ≠ 0 → (¬ (vP (W i) = vP (W j) ∧ vL (W i) = vL (W j)) → Q 0 fd 0 fs S) ∧ (vP (W i) = vP (W j) → vL (W i) = vL (W j) → ((mkv (W i) (W j) k z).1 = true → Q (-6) fd (nI (mkv (W i) (W j) k z).2.1) fs S) ∧ ((mkv (W i) (W j) k z).1 = false → ((mkv (W i) (W j) k z).2.2.1 = false → Q 0 fd (nI (mkv (W i) (W j) k z).2.1) fs S) ∧ ((mkv (W i) (W j) k z).2.2.1 = true → Q 1 fd (nI (mkv (W i) (W j) k z).2.1) fs (vP (W i), (mkv (W i) (W j) k z).2.2.2)))))
/-- the reference's sent places -/
def MS' (S : SV) (sn : Nat → Int32) : Prop := S.1 ≤ 45 ∧ (∀ p, p < S.1 → sn p = S.2 p) ∧ ∀ p, S.1 ≤ p → p < 45 → sn p = -9
theorem m0_rel {g h : Nat → Int64} {P L : Nat} (hP : P ≤ 45) (hP0 : P ≠ 0) (z : Z3) (goes : Nat → Int32) : aRel P L g h (m0 g h P L z.1 z.2.1 z.2.2) (upd goes 0 (-1)) (fun _ => 0) := by
  intro p hp
  unfold m0 at hp ⊢
  rw [opM_l.1] at hp
  have : p = 0 := by omega
  subst this
  rw [opM_l.1, opM_l.2.2.1, opM_l.2.2.2, upd_same]
  refine ⟨by decide, Nat.zero_le _, fun z => absurd z (by omega), fun hlt k => ?_⟩
  unfold opM
  rw [if_neg (by omega)]
  show hs (vp_updL z.2.2 0 (cdM g h L z.1 (vp_updL z.2.1 0 0 0) 0 P) 0) k = true ↔ _
  rw [vp_updL_same]
  unfold cdM
  rw [hs_cdA k P hP]
  exact ⟨fun ⟨z1, z2⟩ => ⟨Nat.zero_le _, z1, z2⟩, fun ⟨_, z1, z2⟩ => ⟨z1, z2⟩⟩
section
variable {W : AW} {ks lc ms pt : Nat → Int32} {ln : Nat → Int64}
theorem m_alike (h : MW W ks lc ln ms pt) {S : SV} {sn : Nat → Int32} (hS : MS' S sn) {z : Z3} {x y n fd tr : Int32} {deg fs goes odeg : Nat → Int32} {nr onr : Nat → Int64} {Q : QL} (s : sp_alike z W S x y n fd tr fs (fun r fd tr fs S' => ∀ deg goes nr odeg onr sn, MS' S' sn → Q r fd tr deg fs goes nr odeg onr sn)) : w_X7_alike x y n fd tr deg fs goes lc ln nr odeg onr pt sn Q := by
  refine m_isNumber (fun i hi ei => ⟨fun c => absurd c (by decide), fun _ => ?_⟩) (fun hn => ⟨fun _ => s.1 (fun z => hn z.1) _ _ _ _ _ _ hS, fun c => absurd rfl c⟩)
  refine m_isNumber (fun j hj ej => ⟨fun c => absurd c (by decide), fun _ => ?_⟩) (fun hn => ⟨fun _ => s.1 (fun z => hn z.2.1) _ _ _ _ _ _ hS, fun c => absurd rfl c⟩)
  refine m_inT (fun k hk1 hk2 ek => ⟨fun _ => ?_, fun c => absurd c (by decide)⟩) (fun hn => ⟨fun c => absurd rfl c, fun _ => s.1 (fun z => hn z.2.2) _ _ _ _ _ _ hS⟩)
  obtain ⟨s1, s2⟩ := s.2 i j k hi hj hk1 hk2 ei ej ek
  subst ei; subst ej; subst ek
  refine ⟨in6 hi, ?_⟩
  rw [cl45 (by omega), MW_pt0 h hi]
  refine ⟨fun c => m_meets (k := 1) (by decide) (s1 (Or.inl c) _ _ _ _ _ _ hS), fun ci => ⟨in6 hj, ?_⟩⟩
  rw [cl45 (i := j) (by omega), MW_pt0 h hj]
  refine ⟨fun cj => ⟨in6 hi, in6 hj, ?_⟩, fun c => m_meets (k := 1) (by decide) (s1 (Or.inr (Classical.not_not.mp (fun z => z c))) _ _ _ _ _ _ hS)⟩
  obtain ⟨a1, a2, a3, a4, a5, a6, a7, a8, a9, a10⟩ := MW_at h hi ci
  obtain ⟨b1, b2, b3, b4, b5, b6, b7, b8, b9, b10⟩ := MW_at h hj cj
  obtain ⟨s3, s4⟩ := s2 ci cj
  rw [a5, b5]
  refine ⟨fun c => s3 (fun z => c (by rw [z.1])) _ _ _ _ _ _ hS, fun c => ⟨in6 hi, in6 hj, ?_⟩⟩
  have eP : vP (W i) = vP (W j) := (nI_eq (by omega) (by omega)).mp c
  rw [a6, b6]
  refine ⟨fun c2 => ⟨in6 hi, ?_⟩, fun c2 => s3 (fun z => c2 (by rw [z.2])) _ _ _ _ _ _ hS⟩
  have eL : vL (W i) = vL (W j) := (nI_eq (by omega) (by omega)).mp c2
  obtain ⟨q6, q01⟩ := s4 eP eL
  rw [← eP, ← eL] at b4 b10
  rw [← eL] at b9
  refine pk_loop (fun m p (r : (Nat → Int32) × (Nat → Int64) × (Nat → Int32) × (Nat → Int64)) => w_X7_alike_98 (nI i) (nI j) (nI k) (nI (vP (W i))) fd 0 fs goes lc ln pt sn Q m (nI p) r.1 r.2.1 r.2.2.1 r.2.2.2) (fun p r => ∀ q, q < p → r.1 q = nI (pop (thr (vG (W i)) (vL (W i)) q)) ∧ r.2.2.1 q = nI (pop (thr (vG (W j)) (vL (W i)) q)) ∧ r.2.1 q = nrs (vG (W i)) (vL (W i)) q ∧ r.2.2.2 q = nrs (vG (W j)) (vL (W i)) q) (vP (W i)) 0 (deg, nr, odeg, onr) (Nat.zero_le _) (fun q hq => absurd hq (Nat.not_lt_zero _)) (fun m r hr => ?_) (fun m p r hp hr ih => ?_)
  · refine pk_le (vP (W i)) (vP (W i)) (fun _ => ⟨in46 (i := 0) (by omega), ?_⟩) (fun c => by omega)
    have z0 : (0 : Int32).toNatClampNeg = 0 := by decide
    rw [z0]
    have e1 : ml (m0 (vG (W i)) (vG (W j)) (vP (W i)) (vL (W i)) z.1 z.2.1 z.2.2) = 1 := opM_l.1
    have e2 : mt' (m0 (vG (W i)) (vG (W j)) (vP (W i)) (vL (W i)) z.1 z.2.1 z.2.2) = 0 := opM_l.2.1
    have hinv := m0_inv (g := vG (W i)) (h := vG (W j)) (L := vL (W i)) a2 z.1 z.2.1 z.2.2
    have hmf : mf (m0 (vG (W i)) (vG (W j)) (vP (W i)) (vL (W i)) z.1 z.2.1 z.2.2) = false := by
      unfold m0 opM
      rw [if_neg (by omega)]
    have := m_alikeLoop (n := k) (fd := fd) (fs := fs) (sn := sn) hi hj (⟨a2, a3, a4, b4, hr⟩ : alP (vP (W i)) (vL (W i)) (vG (W i)) (vG (W j)) r.1 r.2.2.1 r.2.1 r.2.2.2) a5 a6 a9 b9 hk2 (Q := Q) (2 * k + 2) (m0 (vG (W i)) (vG (W j)) (vP (W i)) (vL (W i)) z.1 z.2.1 z.2.2) hinv (by omega) (by omega) (fun zz => by rw [hmf] at zz; cases zz) (fun zz => by omega) _ _ (m0_rel a2 ci z goes) (fun zz goes => q6 zz _ _ _ _ _ _ hS) (fun z1 z2 goes => (q01 z1).1 z2 _ _ _ _ _ _ hS) (fun z1 z2 goes sn' z3 z4 => (q01 z1).2 z2 _ _ _ _ _ _ ⟨a2, z3, z4⟩)
    rw [e1, e2, show nI 1 - 1 = 0 from by decide] at this
    exact this
  · obtain ⟨r1, r2, r3, r4⟩ := r
    refine pk_le (vP (W i)) p (fun c => by omega) (fun _ => m_nearTo hi a3 (by omega) a6 ⟨in45 (by omega), m_nearTo (L := vL (W i)) hj a3 (by omega) (by rw [b6, eL]) ⟨in45 (by omega), m_through hi a3 (by omega) a6 (m_bits (not45 a3 (fun k => thr_in a3)) ⟨in45 (by omega), m_through (L := vL (W i)) hj a3 (by omega) (by rw [b6, eL]) (m_bits (not45 a3 (fun k => thr_in a3)) ⟨in45 (by omega), ?_⟩)⟩)⟩⟩)
    rw [cl45 (by omega), nI_1, nrs_fcong a9, nrs_fcong b9, thr_fcong a9, thr_fcong b9]
    refine ih (_, _, _, _) (fun q hq => ?_)
    by_cases e : q = p
    · subst e
      show upd r1 q _ q = _ ∧ upd r3 q _ q = _ ∧ vp_updL r2 q _ q = _ ∧ vp_updL r4 q _ q = _
      rw [upd_same, upd_same, vp_updL_same, vp_updL_same]
      exact ⟨rfl, rfl, rfl, rfl⟩
    · show upd r1 p _ q = _ ∧ upd r3 p _ q = _ ∧ vp_updL r2 p _ q = _ ∧ vp_updL r4 p _ q = _
      rw [upd_ne e, upd_ne e, upL_ne e, upL_ne e]
      exact hr q (by omega)
end
