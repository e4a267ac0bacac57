def dvOK (v : AV) (a : Nat) : Prop := ∃ t, 2 ≤ t ∧ t < 64 ∧ ordP v = nI t ∧ ordL v = nI t ∧ fl v = 0 ∧ rgv v a
def sp_derive (W : AW) (x p t fd : Int32) (fs : Nat → Int32) (Q : QW4) : Prop := (¬ num t 6 → Q (-1) fd fs W) ∧ ∀ b, b < 6 → t = nI b → lk W x fd fs (fun r fd fs => Q r fd fs W) (fun j => (¬ num p (vP (W j)) → Q (-3) 2 (fnd fs 2) W) ∧ ∀ a, a < vP (W j) → p = nI a → (¬ dvOK (W j) a → Q (-4) fd fs W) ∧ (dvOK (W j) a → (45 < nBb (vG (W j)) (vP (W j)) (vL (W j)) a (vP (W j)) → Q (-2) fd fs W) ∧ (nBb (vG (W j)) (vP (W j)) (vL (W j)) a (vP (W j)) ≤ 45 → Q (nI (pop (kpt (vG (W j)) (vP (W j)) (vL (W j)) a))) fd fs (upW W b (pop (kpt (vG (W j)) (vP (W j)) (vL (W j)) a), nBb (vG (W j)) (vP (W j)) (vL (W j)) a (vP (W j)), 3, 0, gBb (vG (W j)) (vP (W j)) (vL (W j)) a (vP (W j)))))))
theorem ord_val {f : Nat → Nat} {n L t : Nat} (hf : ∀ i, f i ≤ 64) (ht : t < 64) (h : ord f n L = nI t) : f 0 = t + 1 ∧ L ≠ 0 ∧ ∀ i, i < n → f i = t + 1 := by
  rcases ord_or (f := f) (n := n) (L := L) with e | ⟨e, h0, ha⟩
  · rw [e] at h
    exact absurd (by rw [← h]; decide) (nI_pos (n := t) (by omega))
  · rw [e] at h
    have hb := hf 0
    have : f 0 = t + 1 := by
      by_cases c : f 0 = 0
      · rw [c] at h
        have h2 := nI_pos (n := t) (by omega)
        rw [← h] at h2
        exact absurd (by decide) h2
      · rw [nI_sub1 (by omega)] at h
        have := (nI_eq (by omega) (by omega)).mp h
        omega
    exact ⟨this, h0, fun i hi => (ha i hi).trans this⟩
theorem dv_right {v : AV} {a : Nat} (h1 : vP v ≤ 45) (h2 : vL v ≤ 45) (h3 : gOK (vG v) (vP v) (vL v)) (h : dvOK v a) : rightW (vG v) (vP v) (vL v) := by
  obtain ⟨t, t1, t2, t3, t4, t5, -⟩ := h
  have p := (ord_val (fun i => pop_le _) t2 t3).2.2
  have l := (ord_val (fun i => pop_le _) t2 t4).2.2
  have hf := flt_is (vG v) (vP v) (vL v)
  rw [show flt (vG v) (vP v) (vL v) = 0 from t5] at hf
  rcases hf with ⟨-, f1, f2⟩ | ⟨i, j, -, -, -, -, z⟩ | ⟨i, q, -, -, -, -, -, -, z⟩
  · refine ⟨h1, h2, h3, noPr_all.mp f1, fun i q hi hq => f2 i q hi hq (Or.inl hi), fun q hq => ?_, fun i hi => ?_⟩
    · have := p q hq
      change pop (thr (vG v) (vL v) q) = t + 1 at this
      omega
    · have := l i hi
      change pop (vG v i) = t + 1 at this
      omega
  · omega
  · split at z <;> omega
section
variable {W : AW} {ks lc ms pt : Nat → Int32} {ln : Nat → Int64}
abbrev QD : Type := Int32 → Int32 → Int32 → Int32 → Int64 → (Nat → Int32) → (Nat → Int32) → (Nat → Int32) → (Nat → Int64) → (Nat → Int32) → (Nat → Int64) → (Nat → Int32) → Prop
theorem m_derive (h : MW W ks lc ln ms pt) {x p t fd np nl : Int32} {fa : Int64} {fs : Nat → Int32} {nr : Nat → Int64} {Q : QD} (s : sp_derive W x p t fd fs (fun r fd fs W' => ∀ np nl fa ks lc ln ms nr pt, MW W' ks lc ln ms pt → Q r fd np nl fa fs ks lc ln ms nr pt)) : w_X7_derive x p t fd np nl fa fs ks lc ln ms nr pt Q := by
  refine m_isNumber (fun j hj e => ⟨fun c => absurd c (by decide), fun _ => ?_⟩) (fun hn => ⟨fun _ => ?_, fun c => absurd rfl c⟩)
  rotate_left
  · by_cases ht : num t 6
    · obtain ⟨b, hb, e⟩ := ht
      exact (s.2 b hb e).1 hn _ _ _ _ _ _ _ _ _ h
    · exact s.1 ht _ _ _ _ _ _ _ _ _ h
  refine m_isNumber (fun b hb eb => ⟨fun _ => ?_, fun c => absurd c (by decide)⟩) (fun hn => ⟨fun c => absurd rfl c, fun _ => s.1 hn _ _ _ _ _ _ _ _ _ h⟩)
  refine m_lk h (s.2 b hb eb) (fun r fd' fs' hr q => bar_no hr (q _ _ _ _ _ _ _ _ _ h)) (fun j' hj' e' z q => bar_yes ?_)
  have ej : j' = j := (nI_eq (by omega) (by omega)).mp (e'.symm.trans e)
  subst ej
  subst e; subst eb
  obtain ⟨a1, a2, a3, a4, a5, a6, a7, a8, a9, a10⟩ := MW_at h hj z
  refine m_isPoint hj a2 a5 (fun a ha ea => ⟨fun _ => ?_, fun c => absurd c (by decide)⟩) (fun hn => ⟨fun c => absurd rfl c, fun _ => m_meets (k := 2) (by decide) (q.1 hn _ _ _ _ _ _ _ _ _ h)⟩)
  obtain ⟨q4, qok⟩ := q.2 a ha ea
  subst ea
  have no : ¬ dvOK (W j') a → ∀ fa, Q (-4) fd np nl fa fs ks lc ln ms nr pt := fun c fa => q4 c _ _ _ _ _ _ _ _ _ h
  refine m_orderP hj a2 a1 a3 a5 a6 ?_
  rw [thr_fcong a9]
  refine m_faultOf hj a2 a3 a10 a5 a6 ?_
  have ef : flt (mg ln j') (vP (W j')) (vL (W j')) = fl (W j') := flt_cong a2 a3 a9
  have fb : fl (W j') < 40000 := flt_lt a2 a3
  rw [ef]
  generalize (if fl (W j') = 0 then fa else lN (fl (W j') % 10000)) = fa'
  have hz : nI (fl (W j') / 10000) = 0 ↔ fl (W j') = 0 := by
    constructor
    · intro e
      have e2 := (nI_eq (b := 0) (by omega) (by omega)).mp e
      rcases flt_is (vG (W j')) (vP (W j')) (vL (W j')) with ⟨z, -⟩ | ⟨i, k, -, -, -, -, z⟩ | ⟨i, p, -, -, -, -, -, -, z⟩
      · exact z
      · have e3 : flt (vG (W j')) (vP (W j')) (vL (W j')) / 10000 = 0 := e2
        rw [z] at e3; omega
      · have e3 : flt (vG (W j')) (vP (W j')) (vL (W j')) / 10000 = 0 := e2
        rw [z] at e3; split at e3 <;> omega
    · intro e; rw [e]; rfl
  rw [hz]
  refine ⟨fun c => no (fun ⟨t, _, _, _, _, t5, _⟩ => c t5) _, fun cf => ⟨fun c => no (fun ⟨t, t1, t2, t3, _⟩ => ?_) _, fun c2 => ?_⟩⟩
  · rw [show ord (fun i => pop (thr (vG (W j')) (vL (W j')) i)) (vP (W j')) (vL (W j')) = nI t from t3] at c
    have := (nI_ltI (b := 2) (by omega) (by omega)).mp c
    omega
  refine m_orderL hj a2 a3 a10 a6 ?_
  rw [ord_cong (f' := fun i => pop (vG (W j') i)) (fun i hi => by rw [a9 i hi]) (by omega)]
  refine ⟨fun c => no (fun ⟨t, t1, t2, t3, t4, _⟩ => c (t4.trans t3.symm)) _, fun c3 => ?_⟩
  -- the order
  have hord : ∃ t, 2 ≤ t ∧ t < 64 ∧ ordP (W j') = nI t := by
    rcases ord_or (f := fun i => pop (thr (vG (W j')) (vL (W j')) i)) (n := vP (W j')) (L := vL (W j')) with e | ⟨e, -, -⟩
    · rw [e] at c2
      exact absurd (by decide) c2
    · have hb := pop_le (thr (vG (W j')) (vL (W j')) 0)
      by_cases c0 : pop (thr (vG (W j')) (vL (W j')) 0) = 0
      · rw [e, c0] at c2
        exact absurd (by decide) c2
      · rw [e, nI_sub1 (by omega)] at c2
        refine ⟨pop (thr (vG (W j')) (vL (W j')) 0) - 1, ?_, by omega, ?_⟩
        · exact Classical.byContradiction fun zz => c2 ((nI_ltI (b := 2) (by omega) (by omega)).mpr (by omega))
        · show ord _ _ _ = _
          rw [e, nI_sub1 (by omega)]
  obtain ⟨t, t1, t2, t3⟩ := hord
  refine m_isRegular hj a2 a3 ha a10 a5 a6 (fun d => ⟨fun _ => ?_, fun zz => absurd zz (by decide)⟩) (fun d => ⟨fun zz => absurd rfl zz, fun _ => no (fun ⟨_, _, _, _, _, _, t6⟩ => d ?_) _⟩)
  rotate_left
  · rw [nrs_fcong a9]; exact t6
  rw [nrs_fcong a9] at d
  have hdv : dvOK (W j') a := ⟨t, t1, t2, t3, c3.trans t3, cf, d⟩
  have hrw := dv_right a2 a3 a4 hdv
  obtain ⟨qf, qk⟩ := qok hdv
  generalize hg : vG (W j') = g at *
  generalize hP : vP (W j') = P at *
  generalize hL : vL (W j') = L at *
  refine m_allOf hj a2 a5 (m_nearTo hj a3 (by omega) a6 ?_)
  rw [nrs_cong a a9, show (blw P &&& (nrs g L a ^^^ (-1))) = kpt g P L a from rfl]
  refine m_bits (kpt_45 a2) ?_
  have hK := pop_kpt (g := g) (L := L) (x := a) a2
  have nAl : ∀ i, nAb g a i ≤ i := fun i => by unfold nAb; have := fb_ct_le (cAb g a) i; omega
  have nBl : ∀ y, nBb g P L a y ≤ L + y := fun y => by
    unfold nBb
    have h1 := fb_ct_le (cBb g P L a) y
    have h2 := nAl L
    omega
  refine pk_loop (fun n i (r : Nat → Int64) => w_X7_derive_128 (nI j') (nI a) (nI b) (kpt g P L a) fd (nI (pop (kpt g P L a))) fa' fs ks lc ln ms pt Q n (nI i) (nI (nAb g a i)) r) (fun i r => ∀ l, l < nAb g a i → r l = gAb g P L a i l) L 0 nr (Nat.zero_le _) (fun l hl => absurd hl (Nat.not_lt_zero _)) (fun n r hr => ?_) (fun n i r hi hr ih => ?_)
  · refine ⟨in6 hj, ?_⟩
    rw [cl45 (by omega), a6]
    refine pk_le L L (fun _ => ?_) (fun c => by omega)
    refine pk_loop (fun n y (s : Int64 × (Nat → Int64)) => w_X7_derive_191 (nI j') (nI a) (nI b) (kpt g P L a) fd (nI (pop (kpt g P L a))) fa' fs ks lc ln ms pt Q n s.1 (nI y) (nI (nBb g P L a y)) s.2) (fun y s => (∀ k, hs s.1 k = true ↔ ∃ w, w < y ∧ hs (kpt g P L a) w = true ∧ fst g P L a w ∧ hs (rst g P L a w) k = true) ∧ ∀ l, l < nBb g P L a y → s.2 l = gBb g P L a y l) P 0 (0, r) (Nat.zero_le _) ⟨fun k => ⟨fun zz => (by rw [hs_0] at zz; cases zz), fun ⟨w, hw, _⟩ => absurd hw (Nat.not_lt_zero _)⟩, hr⟩ (fun n s hs' => ?_) (fun n y s hy hs' ih => ?_)
    · obtain ⟨told, r2⟩ := s
      refine ⟨in6 hj, ?_⟩
      rw [cl45 (by omega), a5]
      have hbl := nBl P
      refine pk_le P P (fun _ => pk_le (nBb g P L a P) 45 (fun c => ?_) (fun c => qf c _ _ _ _ _ _ _ _ _ h)) (fun c => by omega)
      refine m_keep hb (by omega) (qk c _ _ _ _ _ _ _ _ _ (MW_keep h hb (about_ok hrw ha c).1 (by omega) hs'.2))
    · obtain ⟨told, r2⟩ := s
      obtain ⟨ht, hr2⟩ := hs'
      have hbl := nBl y
      refine ⟨in6 hj, ?_⟩
      rw [cl45 (by omega), a5]
      -- a point of no new span
      have skip : cBb g P L a y = false → w_X7_derive_191 (nI j') (nI a) (nI b) (kpt g P L a) fd (nI (pop (kpt g P L a))) fa' fs ks lc ln ms pt Q n told (nI y + 1) (nI (nBb g P L a y)) r2 := fun hcb => by
        have e1 : nBb g P L a (y + 1) = nBb g P L a y := ct_n hcb
        have e2 : gBb g P L a (y + 1) = gBb g P L a y := apG_n hcb
        have := ih (told, r2) ⟨fun k => (ht k).trans ⟨fun ⟨w, w1, w2⟩ => ⟨w, by omega, w2⟩, fun ⟨w, w1, w2, w3, w4⟩ => ⟨w, ?_, w2, w3, w4⟩⟩, by rw [e1, e2]; exact hr2⟩
        · rw [e1] at this
          rw [nI_1]; exact this
        · by_cases e : w = y
          · exfalso
            subst e
            unfold cBb at hcb
            rw [w2, Bool.true_and] at hcb
            exact of_decide_eq_false hcb w3
          · omega
      refine pk_le P y (fun c => by omega) (fun _ => m_has (by omega) (fun bk => ⟨fun c => absurd c (by decide), fun _ => ?_⟩) (fun bk => ⟨fun _ => skip ?_, fun c => absurd rfl c⟩))
      · have hfar := ((hs_kpt a2).mp bk).2
        have htl := told_iff hrw ha hy hfar
        refine m_has (by omega) (fun bt => ⟨fun _ => skip ?_, fun c => absurd c (by decide)⟩) (fun bt => ⟨fun c => absurd rfl c, fun _ => m_spanOf hj a2 a3 ha hy a10 a5 a6 ?_⟩)
        · unfold cBb
          rw [bk, Bool.true_and]
          exact decide_eq_false (htl.mp ((ht y).mp bt))
        · rw [nrs_fcong a9, show (spn (nrs g L) P a y &&& (vshl 1 (nI a) ^^^ (-1))) = rst g P L a y from rfl]
          refine m_closed (m_add (by omega) ?_)
          have hfst : fst g P L a y := Classical.byContradiction fun zz => by
            rw [(ht y).mpr (htl.mpr zz)] at bt; cases bt
          have hcb : cBb g P L a y = true := by
            unfold cBb
            rw [bk, Bool.true_and]
            exact decide_eq_true hfst
          have e1 : nBb g P L a (y + 1) = nBb g P L a y + 1 := ct_y hcb
          have e2 : gBb g P L a (y + 1) = vp_updL (gBb g P L a y) (nBb g P L a y) (clo (rst g P L a y) (kpt g P L a) 45) := apG_y hcb
          show w_X7_derive_191 _ _ _ _ _ _ _ _ _ _ _ _ _ Q n (told ||| rst g P L a y) (nI y + 1) _ _
          rw [nI_1 y, ← e1]
          refine ih (told ||| rst g P L a y, _) ⟨fun k => ?_, fun l hl => ?_⟩
          · rw [hs_or, Bool.or_eq_true, ht k]
            constructor
            · rintro (⟨w, w1, w2⟩ | w)
              · exact ⟨w, by omega, w2⟩
              · exact ⟨y, by omega, bk, hfst, w⟩
            · rintro ⟨w, w1, w2, w3, w4⟩
              by_cases e : w = y
              · rw [e] at w4; exact Or.inr w4
              · exact Or.inl ⟨w, by omega, w2, w3, w4⟩
          · rw [e2]
            show vp_updL r2 (nBb g P L a y) _ l = vp_updL _ _ _ l
            unfold vp_updL
            by_cases e : l = nBb g P L a y
            · rw [if_pos e, if_pos e]
            · rw [if_neg e, if_neg e]; exact hr2 l (by omega)
      · unfold cBb
        rw [bk]; rfl
  · refine ⟨in6 hj, ?_⟩
    rw [cl45 (by omega), a6]
    have hnl := nAl i
    refine pk_le L i (fun c => by omega) (fun _ => ⟨ix_in hj (by omega), ?_⟩)
    rw [ix_c (l := i) hj (by omega) ln, a9 i hi]
    refine m_has (by omega) (fun bb => ⟨fun _ => ?_, fun c => absurd c (by decide)⟩) (fun bb => ⟨fun c => absurd rfl c, fun _ => ⟨ix_in hj (by omega), m_closed (m_add (by omega) ?_)⟩⟩)
    · have hcb : cAb g a i = false := by unfold cAb; rw [bb]; rfl
      have e1 : nAb g a (i + 1) = nAb g a i := ct_n hcb
      have e2 : gAb g P L a (i + 1) = gAb g P L a i := apG_n hcb
      have := ih r (by rw [e1, e2]; exact hr)
      rw [e1] at this
      show w_X7_derive_128 _ _ _ _ _ _ _ _ _ _ _ _ _ Q n (nI i + 1) _ _
      rw [nI_1]; exact this
    · have hcb : cAb g a i = true := by unfold cAb; rw [bb]; rfl
      have e1 : nAb g a (i + 1) = nAb g a i + 1 := ct_y hcb
      have e2 : gAb g P L a (i + 1) = vp_updL (gAb g P L a i) (nAb g a i) (clo (g i) (kpt g P L a) 45) := apG_y hcb
      show w_X7_derive_128 _ _ _ _ _ _ _ _ _ _ _ _ _ Q n (nI i + 1) _ _
      rw [nI_1 i, ← e1]
      refine ih _ (fun l hl => ?_)
      rw [e2]
      unfold vp_updL
      by_cases e : l = nAb g a i
      · rw [if_pos e, if_pos e]
      · rw [if_neg e, if_neg e]; exact hr l (by omega)
end
