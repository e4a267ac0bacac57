/-! the class's calls that make a world of another; searches; ranks; likeness -/
/-- what such a call leaves -/
def PT (W W' : AW) (to : Int32) (wr wr' : Nat → Option Nat) (oS oB sp : Nat) (t k tg sz lc : Int32) (nr st th : Nat → Int64) : Prop := (W' = W ∧ wr' = wr ∧ sp = oS) ∨ ∃ b, b < 6 ∧ to = nI b ∧ (∀ i, i ≠ b → W' i = W i) ∧ CW (W' b) t k tg sz lc nr st th ∧ wr' = va_up wr b (some oS) ∧ sp = oB
abbrev QP : Type := Int32 → Int32 → Int32 → Int32 → Int32 → Int32 → Int32 → (Nat → Int64) → (Nat → Int64) → (Nat → Int64) → (Nat → Int32) → (Nat → Option Nat) → Nat → Prop
section
variable {W : AW} {x to : Int32} {f : Nat} {wr : Nat → Option Nat} {oW oS oB : Nat} {t k tg sz lc : Int32} {nr st th : Nat → Int64} {fd : Int32} {fs : Nat → Int32} {t' k' tg' sz' lc' : Int32} {nr' st' th' : Nat → Int64}
theorem s_putSpare {b : Nat} (hb : b < 6) (hw : wr b = some oB) {s : Int32} {Q : Int32 → (Nat → Option Nat) → Nat → Prop} (h : Q s (va_up wr b (some oS)) oB) : w_X6_putSpare (nI b) s wr oS oB Q := by
  refine ⟨in6 hb, ?_⟩
  rw [cl45 (by omega)]
  exact ⟨hw, in6 hb, h⟩
theorem PT_no : PT W W to wr wr oS oB oS t' k' tg' sz' lc' nr' st' th' := Or.inl ⟨rfl, rfl, rfl⟩
theorem PT_put {v : AV} {b : Nat} (hb : b < 6) (e : to = nI b) (hc : CW v t' k' tg' sz' lc' nr' st' th') : PT W (upW W b v) to wr (va_up wr b (some oS)) oS oB oB t' k' tg' sz' lc' nr' st' th' := Or.inr ⟨b, hb, e, fun i hi => upW_ne hi, by rw [upW_same]; exact hc, rfl, rfl⟩
theorem s_dual (h : FO W x f wr oW t k tg sz lc nr st th) (hB : ∀ b, b < 6 → to = nI b → wr b = some oB) {Q : QP} (s : sp_dual W x to fd fs (fun r fd fs W' => ∀ t k tg sz lc nr st th wr' sp, PT W W' to wr wr' oS oB sp t k tg sz lc nr st th → Q r fd t k tg sz lc nr st th fs wr' sp)) : w_X6_dual x to fd t' k' tg' sz' lc' nr' st' th' t sz lc th fs wr oS oW oB Q := by
  refine s_isW (fun j hj e => ⟨fun c => absurd c (by decide), fun _ => ?_⟩) (fun hn => ⟨fun _ => ?_, fun c => absurd rfl c⟩)
  rotate_left
  · by_cases ht : num to 6
    · obtain ⟨b, hb, e⟩ := ht
      exact (s.2 b hb e).1 hn _ _ _ _ _ _ _ _ _ _ PT_no
    · exact s.1 ht _ _ _ _ _ _ _ _ _ _ PT_no
  refine s_isW (fun b hb eb => ⟨fun _ => ?_, fun c => absurd c (by decide)⟩) (fun hn => ⟨fun c => absurd rfl c, fun _ => s.1 hn _ _ _ _ _ _ _ _ _ _ PT_no⟩)
  obtain ⟨g1, g2⟩ := FO_g h hj e
  have ej := h.2.2.2.1 j hj e
  subst ej
  obtain ⟨s1, s2⟩ := (s.2 b hb eb).2 j hj e
  refine ⟨g1, g2, fun c => ?_, fun c => s_refused (k := 1) (by decide) (s1 ((FO_0 h).mp c) _ _ _ _ _ _ _ _ _ _ PT_no)⟩
  have h0 : vP (W j) ≠ 0 := fun z => c ((FO_0 h).mpr z)
  obtain ⟨c1, c2, c3, c4, c5, c6, c7, c8, c9, c10, c11, c12, c13⟩ := FO_at h h0
  obtain ⟨q4, qk⟩ := s2 h0
  subst c9; subst c10
  have hle := minF_le (fun i => pop (th i)) 45 (vP (W j))
  have hall : 2 ≤ minF (fun i => pop (th i)) 45 (vP (W j)) ↔ ∀ p, p < vP (W j) → 2 ≤ pop (thr (vG (W j)) (vL (W j)) p) := by
    have hl := minF_lt (fun i => pop (th i)) 45 2 (vP (W j))
    constructor
    · intro z p hp
      have : ¬ pop (th p) < 2 := fun zz => by
        have := hl.mpr (Or.inr ⟨p, hp, zz⟩)
        omega
      rw [c13 p hp] at this
      omega
    · intro z
      apply Classical.byContradiction
      intro zz
      rcases hl.mp (by omega) with z2 | ⟨i, hi, z2⟩
      · omega
      · have z2' : pop (th i) < 2 := z2
        rw [c13 i hi] at z2'
        have := z i hi
        omega
  refine s_leastThrough c2 (pk_le 2 (minF (fun i => pop (th i)) 45 (vP (W j))) (fun d => ?_) (fun d => q4 (fun z => ?_) _ _ _ _ _ _ _ _ _ _ PT_no))
  · have d := hall.mp d
    subst eb
    have hL0 : vL (W j) ≠ 0 := fun z => by
      have h1 := d 0 (by omega)
      obtain ⟨l, hl⟩ := pop_ex (x := thr (vG (W j)) (vL (W j)) 0) (by omega)
      have := thr_in c3 hl
      omega
    refine s_makeTurned c2 c3 c13 (fun nr st th ok => s_putSpare hb (hB b hb rfl) (qk d _ _ _ _ _ _ _ _ _ _ (PT_put hb rfl (CW_of hL0 rfl rfl ok))))
  · have := hall.mpr z
    omega
theorem s_part (h : FO W x f wr oW t k tg sz lc nr st th) (hB : ∀ b, b < 6 → to = nI b → wr b = some oB) {se : Int64} {Q : QP} (s : sp_part W x se to fd fs (fun r fd fs W' => ∀ t k tg sz lc nr st th wr' sp, PT W W' to wr wr' oS oB sp t k tg sz lc nr st th → Q r fd t k tg sz lc nr st th fs wr' sp)) : w_X6_part x se to fd t' k' tg' sz' lc' nr' st' th' t sz lc st fs wr oS oW oB Q := by
  refine s_isW (fun j hj e => ⟨fun c => absurd c (by decide), fun _ => ?_⟩) (fun hn => ⟨fun _ => ?_, fun c => absurd rfl c⟩)
  rotate_left
  · by_cases ht : num to 6
    · obtain ⟨b, hb, e⟩ := ht
      exact (s.2 b hb e).1 hn _ _ _ _ _ _ _ _ _ _ PT_no
    · exact s.1 ht _ _ _ _ _ _ _ _ _ _ PT_no
  refine s_isW (fun b hb eb => ⟨fun _ => ?_, fun c => absurd c (by decide)⟩) (fun hn => ⟨fun c => absurd rfl c, fun _ => s.1 hn _ _ _ _ _ _ _ _ _ _ PT_no⟩)
  obtain ⟨g1, g2⟩ := FO_g h hj e
  have ej := h.2.2.2.1 j hj e
  subst ej
  obtain ⟨s1, s2⟩ := (s.2 b hb eb).2 j hj e
  refine ⟨g1, g2, fun c => ?_, fun c => s_refused (k := 1) (by decide) (s1 ((FO_0 h).mp c) _ _ _ _ _ _ _ _ _ _ PT_no)⟩
  have h0 : vP (W j) ≠ 0 := fun z => c ((FO_0 h).mpr z)
  obtain ⟨c1, c2, c3, c4, c5, c6, c7, c8, c9, c10, c11, c12, c13⟩ := FO_at h h0
  obtain ⟨qb, qk⟩ := s2 h0
  subst c9; subst c10
  refine s_hasAll c2 (fun d => ⟨fun _ => ?_, fun c => absurd c (by decide)⟩) (fun d => ⟨fun c => absurd rfl c, fun _ => qb d _ _ _ _ _ _ _ _ _ _ PT_no⟩)
  obtain ⟨q4, qk⟩ := qk d
  have h45 : ∀ k, 45 ≤ k → hs se k = false := fun k hk => d k (by omega)
  have hpop : pop se ≤ 45 := by rw [pop_45 h45]; exact fb_ct_le _ _
  have hb64 := maxF_le (fun i => pop (st i &&& se)) 0 64 (by omega) (fun i => pop_le _) (vL (W j))
  have hall : 2 ≤ maxF (fun i => pop (st i &&& se)) 0 (vL (W j)) ↔ ptC (vG (W j)) se (vL (W j)) ≠ 0 := by
    have hl := maxF_lt (fun i => pop (st i &&& se)) 0 1 (vL (W j))
    have e1 : (∃ i, i < vL (W j) ∧ 1 < pop (st i &&& se)) ↔ ptC (vG (W j)) se (vL (W j)) ≠ 0 := by
      unfold ptC
      constructor
      · rintro ⟨i, hi, z⟩
        have : 0 < fb_ct (fun l => decide (2 ≤ pop (vG (W j) l &&& se))) (vL (W j)) := fb_ct_pos.mpr ⟨i, hi, decide_eq_true (by rw [← c11 i hi]; omega)⟩
        omega
      · intro z
        obtain ⟨i, hi, z⟩ := fb_ct_pos.mp (show 0 < fb_ct (fun l => decide (2 ≤ pop (vG (W j) l &&& se))) (vL (W j)) by omega)
        have := of_decide_eq_true z
        exact ⟨i, hi, by rw [c11 i hi]; omega⟩
    rw [← e1]
    constructor
    · intro z
      rcases hl.mp (by omega) with zz | zz
      · omega
      · exact zz
    · intro z
      have := hl.mpr (Or.inr z)
      omega
  refine s_mostOnLine c3 (pk_le 2 (maxF (fun i => pop (st i &&& se)) 0 (vL (W j))) (fun z => ?_) (fun z => q4 (Classical.not_not.mp (fun zz => by have := hall.mpr zz; omega)) _ _ _ _ _ _ _ _ _ _ PT_no))
  have hne := hall.mp z
  subst eb
  have hp0 : pop se ≠ 0 := fun e0 => by
    obtain ⟨k2, k3⟩ := (pt_ok (g := vG (W j)) h45 (vL (W j)))
    obtain ⟨kk, hk⟩ := k3 0 (by omega)
    have := k2 0 (by omega) kk hk
    omega
  have eC : ptC st se (vL (W j)) = ptC (vG (W j)) se (vL (W j)) := ptC_cong c11
  have eG : ptG st se (vL (W j)) = ptG (vG (W j)) se (vL (W j)) := ptG_cong c11
  refine s_makePart c2 c3 hpop (fun nr st th ok => s_putSpare hb (hB b hb rfl) ?_)
  rw [eC, eG] at ok
  rw [eC]
  exact qk hne _ _ _ _ _ _ _ _ _ _ (PT_put hb rfl (CW_of hp0 rfl rfl ok))
theorem s_derive (h : FO W x f wr oW t k tg sz lc nr st th) (hB : ∀ b, b < 6 → to = nI b → wr b = some oB) {p : Int32} {Q : QP} (s : sp_derive W x p to fd fs (fun r fd fs W' => ∀ t k tg sz lc nr st th wr' sp, PT W W' to wr wr' oS oB sp t k tg sz lc nr st th → Q r fd t k tg sz lc nr st th fs wr' sp)) : w_X6_derive x p to fd t' k' tg' sz' lc' nr' st' th' t sz lc nr st th fs wr oS oW oB Q := by
  refine s_isW (fun j hj e => ⟨fun c => absurd c (by decide), fun _ => ?_⟩) (fun hn => ⟨fun _ => ?_, fun c => absurd rfl c⟩)
  rotate_left
  · by_cases ht : num to 6
    · obtain ⟨b, hb, e⟩ := ht
      exact (s.2 b hb e).1 hn _ _ _ _ _ _ _ _ _ _ PT_no
    · exact s.1 ht _ _ _ _ _ _ _ _ _ _ PT_no
  refine s_isW (fun b hb eb => ⟨fun _ => ?_, fun c => absurd c (by decide)⟩) (fun hn => ⟨fun c => absurd rfl c, fun _ => s.1 hn _ _ _ _ _ _ _ _ _ _ PT_no⟩)
  obtain ⟨g1, g2⟩ := FO_g h hj e
  have ej := h.2.2.2.1 j hj e
  subst ej
  obtain ⟨s1, s2⟩ := (s.2 b hb eb).2 j hj e
  refine ⟨g1, g2, fun c => ?_, fun c => s_refused (k := 1) (by decide) (s1 ((FO_0 h).mp c) _ _ _ _ _ _ _ _ _ _ PT_no)⟩
  have h0 : vP (W j) ≠ 0 := fun z => c ((FO_0 h).mpr z)
  obtain ⟨c1, c2, c3, c4, c5, c6, c7, c8, c9, c10, c11, c12, c13⟩ := FO_at h h0
  obtain ⟨q2, qp⟩ := s2 h0
  subst c9; subst c10
  refine s_hasPoint c2 (fun a ha ea => ⟨fun _ => ?_, fun c => absurd c (by decide)⟩) (fun hn => ⟨fun c => absurd rfl c, fun _ => s_refused (k := 2) (by decide) (q2 hn _ _ _ _ _ _ _ _ _ _ PT_no)⟩)
  obtain ⟨q4, qok⟩ := qp a ha ea
  subst ea; subst eb
  have no : ¬ dvOK (W j) a → w_X6_derive_93 fd t' k' tg' sz' lc' nr' st' th' t (nI (vP (W j))) (nI (vL (W j))) nr st th fs wr oS oW oB Q := fun z => q4 z _ _ _ _ _ _ _ _ _ _ PT_no
  have eL : ord (fun i => pop (st i)) (vL (W j)) (vL (W j)) = ordL (W j) := ord_cong (fun i hi => by rw [c11 i hi]) (by omega)
  have eP : ord (fun i => pop (th i)) (vP (W j)) (vL (W j)) = ordP (W j) := ord_cong (fun i hi => by rw [c13 i hi]) (Or.inl c1)
  refine s_orderOfLines c3 ?_
  rw [eL]
  refine ⟨fun d => no (fun ⟨u, u1, u2, u3, u4, _⟩ => ?_), fun d => s_orderOfPoints c2 c1 c3 ?_⟩
  · rw [u4] at d
    have := (nI_ltI (b := 2) (by omega) (by omega)).mp d
    omega
  rw [eP]
  refine ⟨fun d2 => no (fun ⟨u, u1, u2, u3, u4, _⟩ => d2 (u4.trans u3.symm)), fun d2 => ?_⟩
  have hgs : gOK st (vP (W j)) (vL (W j)) := fun l hl kk hk => c4 l hl kk (by rw [← c11 l hl]; exact hk)
  have hths : ∀ p, p < vP (W j) → th p = thr st (vL (W j)) p := fun p hp => by rw [c13 p hp]; exact thr_cong p (fun l hl => (c11 l hl).symm)
  refine s_firstOf c2 c3 hgs hths ?_
  have ef : flt st (vP (W j)) (vL (W j)) = fl (W j) := flt_cong c2 c3 c11
  have fb : fl (W j) < 40000 := flt_lt c2 c3
  rw [ef]
  refine ⟨fun d3 => no (fun ⟨u, u1, u2, u3, u4, u5, _⟩ => d3 (by rw [u5]; rfl)), fun d3 => ?_⟩
  have hf0 : fl (W j) = 0 := (nI_eq (b := 0) (by omega) (by omega)).mp d3
  have er : reg nr (vP (W j)) a (ordP (W j) + 1) ↔ rgv (W j) a := by
    unfold rgv reg
    rw [c12 a ha]
    constructor
    · intro z y hy; rw [← spn_cong c12 ha hy]; exact z y hy
    · intro z y hy; rw [spn_cong c12 ha hy]; exact z y hy
  refine s_isRegular c2 c3 ha (fun z => ⟨fun _ => ?_, fun zz => absurd zz (by decide)⟩) (fun z => ⟨fun zz => absurd rfl zz, fun _ => no (fun ⟨_, _, _, _, _, _, u6⟩ => z (by rw [eP]; exact er.mpr u6))⟩)
  rw [eP] at z
  have hord : ∃ u, 2 ≤ u ∧ u < 64 ∧ ordL (W j) = nI u := by
    rcases ord_or (f := fun i => pop (vG (W j) i)) (n := vL (W j)) (L := vL (W j)) with e | ⟨e, -, -⟩
    · rw [show ordL (W j) = -9 from e] at d
      exact absurd (by decide) d
    · have hb := pop_le (vG (W j) 0)
      have e' : ordL (W j) = nI (pop (vG (W j) 0)) - 1 := e
      by_cases c0 : pop (vG (W j) 0) = 0
      · rw [e', c0] at d
        exact absurd (by decide) d
      · rw [e', nI_sub1 (by omega)] at d
        refine ⟨pop (vG (W j) 0) - 1, ?_, by omega, ?_⟩
        · exact Classical.byContradiction fun zz => d ((nI_ltI (b := 2) (by omega) (by omega)).mpr (by omega))
        · rw [e', nI_sub1 (by omega)]
  obtain ⟨u, u1, u2, u3⟩ := hord
  have hdv : dvOK (W j) a := ⟨u, u1, u2, d2 ▸ u3, u3, hf0, er.mp z⟩
  have hrw := dv_right c2 c3 c4 hdv
  obtain ⟨qf, qk⟩ := qok hdv
  refine s_makeAbout c2 c3 ha c12 c11 (fun hc nr st th ok => ⟨fun _ => s_putSpare hb (hB b hb rfl) ?_, fun zz => absurd zz (by decide)⟩) (fun hc lc nr st th => ⟨fun zz => absurd rfl zz, fun _ => qf hc _ _ _ _ _ _ _ _ _ _ PT_no⟩)
  exact qk hc _ _ _ _ _ _ _ _ _ _ (PT_put hb rfl (CW_of (about_ok hrw ha hc (kd := 3) (tg := 0)).2 rfl rfl ok))
theorem s_rank (h : FO W x f wr oW t k tg sz lc nr st th) {rr : Int32} {rc : Nat → Int32} {Q : Int32 → Int32 → (Nat → Int32) → (Nat → Int32) → Prop} (s : sp_rank W x rr fd fs (fun r fd fs => ∀ rc, Q r fd fs rc)) : w_X6_rank x rr fd t sz lc st fs rc wr oW Q := by
  have main : ∀ j, j < 6 → x = nI j → ∀ r, isR r → rr = nI r → w_X6_rank_24 x rr fd t sz lc st fs rc wr oW Q := by
    intro j hj e r hr er
    obtain ⟨g1, g2⟩ := FO_g h hj e
    have ej := h.2.2.2.1 j hj e
    subst ej
    obtain ⟨s1, s2⟩ := (s.2 r hr er).2 j hj e
    refine ⟨g1, g2, fun c => ⟨g1, g2, ?_⟩, fun c => s_refused (k := 1) (by decide) (s1 ((FO_0 h).mp c) _)⟩
    have h0 : vP (W j) ≠ 0 := fun z => c ((FO_0 h).mpr z)
    obtain ⟨c1, c2, c3, c4, c5, c6, c7, c8, c9, c10, c11, c12, c13⟩ := FO_at h h0
    have q := s2 h0
    subst c9; subst c10; subst er
    exact s_rankOf hr c3 c2 c11 q
  have no : ¬ (∃ r', isR r' ∧ rr = nI r') → w_X6_rank_22 fd t sz lc st fs rc wr oW Q := fun z => s.1 z _
  refine s_isW (fun j hj e => ⟨fun c => absurd c (by decide), fun _ => ⟨fun c => main j hj e 2 (Or.inl rfl) c, fun c2 => ⟨fun c => main j hj e 3 (Or.inr (Or.inl rfl)) c, fun c3 => ⟨fun c => main j hj e 5 (Or.inr (Or.inr rfl)) c, fun c5 => no ?_⟩⟩⟩⟩) (fun hn => ⟨fun _ => ?_, fun c => absurd rfl c⟩)
  · rintro ⟨r, hr, er⟩
    rcases hr with rfl | rfl | rfl
    · exact c2 er
    · exact c3 er
    · exact c5 er
  · by_cases hr : ∃ r', isR r' ∧ rr = nI r'
    · obtain ⟨r, hr, er⟩ := hr
      exact (s.2 r hr er).1 hn _
    · exact no hr
end
