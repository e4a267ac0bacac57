/-! the class's searches -/
theorem cdF_cong {ch ch' : Int64} {mt mt' : Nat → Int64} {M : Int64} (e : ch = ch') (h : ∀ c, hs ch c = true → mt c = mt' c) : ∀ n, cdF ch mt M n = cdF ch' mt' M n
  | 0 => rfl
  | n + 1 => by
    rw [cdF, cdF, cdF_cong e h n, ← e]
    by_cases c : hs ch n = true
    · rw [h n c]
    · rw [if_neg (fun z => c z.1), if_neg (fun z => c z.1)]
section
variable {G N : Nat} {ch ch' mt mt' : Nat → Int64}
theorem opS_cong (hc : chM G N ch mt) (h1 : ∀ g, g < G → ch g = ch' g) (h2 : ∀ k, k < N → mt k = mt' k) {l t f : Nat} {q : Int64} {M T C : Nat → Int64} (hM : ∀ g, hs (M (l - 1)) g = true → g < G) : opS G ch mt l t f q M T C = opS G ch' mt' l t f q M T C := by
  unfold opS
  by_cases e : M (l - 1) = blw G
  · rw [if_pos e, if_pos e]
  · rw [if_neg e, if_neg e]
    obtain ⟨g1, -, -⟩ := gl_is hc.1 hM e
    rw [cdF_cong (h1 _ g1) (fun c hcc => h2 c (hc.2.2.1 _ g1 c hcc).1)]
theorem skr_cong (hc : chM G N ch mt) (h1 : ∀ g, g < G → ch g = ch' g) (h2 : ∀ k, k < N → mt k = mt' k) {n : Nat} {e : Bool} : ∀ f s, sInv G N mt s → skr G ch mt n e f s = skr G ch' mt' n e f s
  | 0, s, _ => rfl
  | f + 1, s, hi => by
    rw [skr, skr]
    by_cases c0 : sl s = 0
    · rw [if_pos c0, if_pos c0]
    rw [if_neg c0, if_neg c0]
    by_cases c1 : 0 < sf s ∧ e = false
    · rw [if_pos c1, if_pos c1]
    rw [if_neg c1, if_neg c1]
    by_cases c2 : sC s (sl s - 1) = 0
    · rw [if_pos c2, if_pos c2]
      exact skr_cong hc h1 h2 f _ (pp_inv hi)
    rw [if_neg c2, if_neg c2]
    by_cases c3 : st s = n
    · rw [if_pos c3, if_pos c3]
    rw [if_neg c3, if_neg c3]
    obtain ⟨i1, i2, i3⟩ := ps_inv hc hi (by omega) c2
    have ep : psS G ch mt s = psS G ch' mt' s := by
      have hM := (i1 (sl s) (by rw [ps_l.1]; omega)).1
      unfold psS at hM ⊢
      rw [op_lMT.2.2.1] at hM
      rw [← h2 _ i2]
      exact opS_cong hc h1 h2 (by rw [Nat.add_sub_cancel]; exact hM)
    rw [← ep]
    exact skr_cong hc h1 h2 f _ i1
end
abbrev QE : Type := Int32 → Int32 → Int32 → Int64 → (Nat → Int32) → Int64 → Int32 → Int32 → Int32 → Int32 → Int64 → (Nat → Int64) → (Nat → Int64) → (Nat → Int64) → Prop
section
variable {W : AW} {x : Int32} {f : Nat} {wr : Nat → Option Nat} {oW : Nat} {t k tg sz lc : Int32} {nr st th : Nat → Int64} {fd : Int32} {fs : Nat → Int32}
theorem sv_own {b : Bool} {v : AV} {t k tg sz lc : Int32} {nr st th : Nat → Int64} (ca : CA v t k tg sz lc nr st th) {n : Nat} {e : Bool} {z : Z4} : chM (svG b v) (svN b v) (if b then st else th) (if b then th else st) ∧ skr (svG b v) (if b then st else th) (if b then th else st) n e (2 * n + 2) (s0 (svG b v) (if b then st else th) (if b then th else st) z.1 z.2.1 z.2.2.1 z.2.2.2) = skv b e v n z := by
  obtain ⟨c1, c2, c3, c4, c5, c6, c7, c8, c9, c10, c11, c12, c13⟩ := ca
  have hc := sv_chM (b := b) c2 c3 c4
  have h1 : ∀ g, g < svG b v → svC b v g = (if b then st else th) g := fun g hg => by
    cases b
    · exact (c13 g hg).symm
    · exact (c11 g hg).symm
  have h2 : ∀ k, k < svN b v → svM b v k = (if b then th else st) k := fun k hk => by
    cases b
    · exact (c11 k hk).symm
    · exact (c13 k hk).symm
  refine ⟨⟨hc.1, hc.2.1, fun g hg kk hk => ?_, fun kk hk g hg => ?_⟩, ?_⟩
  · rw [← h1 g hg] at hk
    obtain ⟨a1, a2⟩ := hc.2.2.1 g hg kk hk
    exact ⟨a1, by rw [← h2 kk a1]; exact a2⟩
  · rw [← h2 kk hk] at hg
    exact hc.2.2.2 kk hk g hg
  · unfold skv
    have e0 : s0 (svG b v) (svC b v) (svM b v) z.1 z.2.1 z.2.2.1 z.2.2.2 = s0 (svG b v) (if b then st else th) (if b then th else st) z.1 z.2.1 z.2.2.1 z.2.2.2 := opS_cong hc h1 h2 (fun g hg => by rw [show 1 - 1 = 0 from rfl, vp_updL_same, hs_0] at hg; cases hg)
    rw [← e0]
    exact (skr_cong hc h1 h2 _ _ (s0_inv hc z.1 z.2.1 z.2.2.1 z.2.2.2)).symm
theorem s_firstFound {o : SO} {tr : Int32} {ask : Int64} {n : Nat} (hb : o.2.1 ≤ n ∧ o.2.2.1 ≤ o.2.1 + 1) (hn : n ≤ 100000) {Q : Int32 → Int32 → Int64 → Prop} (h6 : o.1 = true → Q (-6) (nI o.2.1) ask) (h1 : o.1 = false → (o.2.2.1 = 0 → Q (-9) (nI o.2.1) ask) ∧ (o.2.2.1 ≠ 0 → Q (nI (pop o.2.2.2)) (nI o.2.1) o.2.2.2)) : w_X6_firstFound tr ask (nI o.2.1) (if o.1 then 1 else 0) (nI o.2.2.1) o.2.2.2 Q := by
  cases ho : o.1
  · obtain ⟨a1, a2⟩ := h1 ho
    refine ⟨fun _ => ⟨fun c => s_askedSet (a2 (fun z => c (by rw [z]; rfl))), fun c => a1 ((nI_eq (b := 0) (by omega) (by omega)).mp c)⟩, fun c => absurd rfl c⟩
  · exact ⟨fun c => absurd c (by decide), fun _ => h6 ho⟩
abbrev QE0 (Q : QE) : QT := fun r fd tr ask fs => ∀ am d tc sp fc fq C M T, Q r fd tr ask fs am d tc sp fc fq C M T
theorem s_ovoid (h : FO W x f wr oW t k tg sz lc nr st th) {n tr am0 : Int32} {ask am : Int64} {d tc sp fc : Int32} {fq : Int64} {C M T : Nat → Int64} {Q : QE} (s : sp_seek true (fq, M, T, C) W x n fd tr ask fs (QE0 Q)) : w_X6_ovoid x n fd tr ask t lc st th fs am d tc sp fc fq C M T wr oW Q := by
  refine s_isW (fun j hj e => ⟨fun c => absurd c (by decide), fun _ => ?_⟩) (fun hn => ⟨fun _ => ?_, fun c => absurd rfl c⟩)
  rotate_left
  · by_cases ht : numT n
    · obtain ⟨u, h1, h2, e⟩ := ht
      exact (s.2 u h1 h2 e).1 hn _ _ _ _ _ _ _ _ _
    · exact s.1 ht _ _ _ _ _ _ _ _ _
  refine s_isT (fun u hu1 hu2 eu => ⟨fun _ => ?_, fun c => absurd c (by decide)⟩) (fun hn => ⟨fun c => absurd rfl c, fun _ => s.1 hn _ _ _ _ _ _ _ _ _⟩)
  obtain ⟨g1, g2⟩ := FO_g h hj e
  have ej := h.2.2.2.1 j hj e
  subst ej
  obtain ⟨s1, s2⟩ := (s.2 u hu1 hu2 eu).2 j hj e
  refine ⟨g1, g2, fun c => ?_, fun c => s_refused (k := 1) (by decide) (s1 ((FO_0 h).mp c) _ _ _ _ _ _ _ _ _)⟩
  have h0 : vP (W j) ≠ 0 := fun z => c ((FO_0 h).mpr z)
  have ca := FO_at h h0
  obtain ⟨q6, q1⟩ := s2 h0
  obtain ⟨hch, hsk0⟩ := sv_own (b := true) ca (n := u) (e := false) (z := (fq, M, T, C))
  have hsk : skr (svG true (W j)) (if true then st else th) (if true then th else st) u false (2 * u + 2) (s0 (svG true (W j)) (if true then st else th) (if true then th else st) fq M T C) = skv true false (W j) u (fq, M, T, C) := hsk0
  have hb := skv_bd true false (W j) u (fq, M, T, C)
  subst eu
  rw [ca.2.2.2.2.2.2.2.2.2.1]
  refine s_seek (G := svG true (W j)) hch hu2 (fun d C' M' T' => ?_)
  rw [show (decide ((0 : Int32) ≠ 0)) = false from by decide, hsk]
  exact s_firstFound hb hu2 (fun z => q6 z _ _ _ _ _ _ _ _ _) (fun z => ⟨fun z2 => (q1 z).1 z2 _ _ _ _ _ _ _ _ _, fun z2 => (q1 z).2 z2 _ _ _ _ _ _ _ _ _⟩)
theorem s_spread (h : FO W x f wr oW t k tg sz lc nr st th) {n tr am0 : Int32} {ask am : Int64} {d tc sp fc : Int32} {fq : Int64} {C M T : Nat → Int64} {Q : QE} (s : sp_seek false (fq, M, T, C) W x n fd tr ask fs (QE0 Q)) : w_X6_spread x n fd tr ask t sz st th fs am d tc sp fc fq C M T wr oW Q := by
  refine s_isW (fun j hj e => ⟨fun c => absurd c (by decide), fun _ => ?_⟩) (fun hn => ⟨fun _ => ?_, fun c => absurd rfl c⟩)
  rotate_left
  · by_cases ht : numT n
    · obtain ⟨u, h1, h2, e⟩ := ht
      exact (s.2 u h1 h2 e).1 hn _ _ _ _ _ _ _ _ _
    · exact s.1 ht _ _ _ _ _ _ _ _ _
  refine s_isT (fun u hu1 hu2 eu => ⟨fun _ => ?_, fun c => absurd c (by decide)⟩) (fun hn => ⟨fun c => absurd rfl c, fun _ => s.1 hn _ _ _ _ _ _ _ _ _⟩)
  obtain ⟨g1, g2⟩ := FO_g h hj e
  have ej := h.2.2.2.1 j hj e
  subst ej
  obtain ⟨s1, s2⟩ := (s.2 u hu1 hu2 eu).2 j hj e
  refine ⟨g1, g2, fun c => ?_, fun c => s_refused (k := 1) (by decide) (s1 ((FO_0 h).mp c) _ _ _ _ _ _ _ _ _)⟩
  have h0 : vP (W j) ≠ 0 := fun z => c ((FO_0 h).mpr z)
  have ca := FO_at h h0
  obtain ⟨q6, q1⟩ := s2 h0
  obtain ⟨hch, hsk0⟩ := sv_own (b := false) ca (n := u) (e := false) (z := (fq, M, T, C))
  have hsk : skr (svG false (W j)) (if false then st else th) (if false then th else st) u false (2 * u + 2) (s0 (svG false (W j)) (if false then st else th) (if false then th else st) fq M T C) = skv false false (W j) u (fq, M, T, C) := hsk0
  have hb := skv_bd false false (W j) u (fq, M, T, C)
  subst eu
  rw [ca.2.2.2.2.2.2.2.2.1]
  refine s_seek (G := svG false (W j)) hch hu2 (fun d C' M' T' => ?_)
  rw [show (decide ((0 : Int32) ≠ 0)) = false from by decide, hsk]
  exact s_firstFound hb hu2 (fun z => q6 z _ _ _ _ _ _ _ _ _) (fun z => ⟨fun z2 => (q1 z).1 z2 _ _ _ _ _ _ _ _ _, fun z2 => (q1 z).2 z2 _ _ _ _ _ _ _ _ _⟩)
theorem s_ovoids (h : FO W x f wr oW t k tg sz lc nr st th) {n tr am0 : Int32} {ask am : Int64} {d tc sp fc : Int32} {fq : Int64} {C M T : Nat → Int64} {Q : QE} (s : sp_ovoids (fq, M, T, C) W x n fd tr ask fs (QE0 Q)) : w_X6_ovoids x n fd tr ask t lc st th fs am d tc sp fc fq C M T wr oW Q := by
  refine s_isW (fun j hj e => ⟨fun c => absurd c (by decide), fun _ => ?_⟩) (fun hn => ⟨fun _ => ?_, fun c => absurd rfl c⟩)
  rotate_left
  · by_cases ht : numT n
    · obtain ⟨u, h1, h2, e⟩ := ht
      exact (s.2 u h1 h2 e).1 hn _ _ _ _ _ _ _ _ _
    · exact s.1 ht _ _ _ _ _ _ _ _ _
  refine s_isT (fun u hu1 hu2 eu => ⟨fun _ => ?_, fun c => absurd c (by decide)⟩) (fun hn => ⟨fun c => absurd rfl c, fun _ => s.1 hn _ _ _ _ _ _ _ _ _⟩)
  obtain ⟨g1, g2⟩ := FO_g h hj e
  have ej := h.2.2.2.1 j hj e
  subst ej
  obtain ⟨s1, s2⟩ := (s.2 u hu1 hu2 eu).2 j hj e
  refine ⟨g1, g2, fun c => ?_, fun c => s_refused (k := 1) (by decide) (s1 ((FO_0 h).mp c) _ _ _ _ _ _ _ _ _)⟩
  have h0 : vP (W j) ≠ 0 := fun z => c ((FO_0 h).mpr z)
  have ca := FO_at h h0
  obtain ⟨q6, q1⟩ := s2 h0
  obtain ⟨hch, hsk0⟩ := sv_own (b := true) ca (n := u) (e := true) (z := (fq, M, T, C))
  have hsk : skr (svG true (W j)) (if true then st else th) (if true then th else st) u true (2 * u + 2) (s0 (svG true (W j)) (if true then st else th) (if true then th else st) fq M T C) = skv true true (W j) u (fq, M, T, C) := hsk0
  have hb := skv_bd true true (W j) u (fq, M, T, C)
  subst eu
  rw [ca.2.2.2.2.2.2.2.2.2.1]
  refine s_seek (G := svG true (W j)) hch hu2 (fun d C' M' T' => ?_)
  rw [show (decide ((1 : Int32) ≠ 0)) = true from by decide, hsk]
  cases ho : (skv true true (W j) u (fq, M, T, C)).1
  · refine ⟨fun _ => ?_, fun z => absurd rfl z⟩
    rw [nI_l (by omega)]
    exact q1 ho _ _ _ _ _ _ _ _ _
  · exact ⟨fun z => absurd z (by decide), fun _ => q6 ho _ _ _ _ _ _ _ _ _⟩
/-- where points were sent, as the class holds it -/
def CS (S : SV) (ss : Int32) (sn : Nat → Int32) : Prop := S.1 ≤ 45 ∧ ss = nI S.1 ∧ ∀ p, p < S.1 → sn p = S.2 p
abbrev QB : Type := Int32 → Int32 → Int32 → Int32 → (Nat → Int32) → Int32 → Int32 → Int32 → Int32 → (Nat → Int32) → (Nat → Int64) → (Nat → Int64) → (Nat → Int32) → Prop
theorem s_alike (h : FO W x f wr oW t k tg sz lc nr st th) {y : Int32} {g oU : Nat} {t2 k2 tg2 sz2 lc2 : Int32} {nr2 st2 th2 : Nat → Int64} (h2 : FO W y g wr oU t2 k2 tg2 sz2 lc2 nr2 st2 th2) {S : SV} {ss tr n : Int32} {sn im : Nat → Int32} (hS : CS S ss sn) {d tc sp fo : Int32} {C U : Nat → Int64} {Q : QB} (s : sp_alike (im, U, C) W S x y n fd tr fs (fun r fd tr fs S' => ∀ ss sn d tc sp fo im C U, CS S' ss sn → Q r ss fd tr fs d tc sp fo im C U sn)) : w_X6_alike x y n ss fd tr t2 sz2 lc2 nr2 st2 th2 t sz lc nr st th fs d tc sp fo im C U sn wr oW oU Q := by
  refine s_isW (fun i hi ei => ⟨fun c => absurd c (by decide), fun _ => ?_⟩) (fun hn => ⟨fun _ => s.1 (fun z => hn z.1) _ _ _ _ _ _ _ _ _ hS, fun c => absurd rfl c⟩)
  refine s_isW (fun j hj ej => ⟨fun c => absurd c (by decide), fun _ => ?_⟩) (fun hn => ⟨fun _ => s.1 (fun z => hn z.2.1) _ _ _ _ _ _ _ _ _ hS, fun c => absurd rfl c⟩)
  refine s_isT (fun u hu1 hu2 eu => ⟨fun _ => ?_, fun c => absurd c (by decide)⟩) (fun hn => ⟨fun c => absurd rfl c, fun _ => s.1 (fun z => hn z.2.2) _ _ _ _ _ _ _ _ _ hS⟩)
  obtain ⟨g1, g2⟩ := FO_g h hi ei
  obtain ⟨g3, g4⟩ := FO_g h2 hj ej
  have e1 := h.2.2.2.1 i hi ei
  have e2 := h2.2.2.2.1 j hj ej
  subst e1; subst e2
  obtain ⟨s1, s2⟩ := s.2 i j u hi hj hu1 hu2 ei ej eu
  refine ⟨g1, g2, fun c => s_refused (k := 1) (by decide) (s1 (Or.inl ((FO_0 h).mp c)) _ _ _ _ _ _ _ _ _ hS), fun c => ⟨g3, g4, fun c2 => ⟨g1, g2, g3, g4, ?_⟩, fun c2 => s_refused (k := 1) (by decide) (s1 (Or.inr ((FO_0 h2).mp c2)) _ _ _ _ _ _ _ _ _ hS)⟩⟩
  have h0 : vP (W i) ≠ 0 := fun z => c ((FO_0 h).mpr z)
  have h02 : vP (W j) ≠ 0 := fun z => c2 ((FO_0 h2).mpr z)
  obtain ⟨a1, a2, a3, a4, a5, a6, a7, a8, a9, a10, a11, a12, a13⟩ := FO_at h h0
  obtain ⟨b1, b2, b3, b4, b5, b6, b7, b8, b9, b10, b11, b12, b13⟩ := FO_at h2 h02
  obtain ⟨s3, s4⟩ := s2 h0 h02
  have hS' := hS
  subst eu
  rw [a9, a10, b9, b10]
  by_cases hsame : vP (W i) = vP (W j) ∧ vL (W i) = vL (W j)
  · obtain ⟨q6, q01⟩ := s4 hsame.1 hsame.2
    have hp : mtP (vP (W i)) (vL (W i)) (vG (W i)) (vG (W j)) nr st th nr2 st2 th2 := ⟨a2, a3, a11, fun l hl => b11 l (by omega), fun p hp => ⟨a12 p hp, a13 p hp⟩, fun p hp => by rw [hsame.2]; exact ⟨b12 p (by omega), b13 p (by omega)⟩⟩
    rw [← hsame.1, ← hsame.2]
    refine s_match hp hu2 (fun d C' U' => ?_)
    rw [show mkr (vG (W i)) (vG (W j)) (vP (W i)) (vL (W i)) u (2 * u + 2) (m0 (vG (W i)) (vG (W j)) (vP (W i)) (vL (W i)) im U C) = mkv (W i) (W j) u (im, U, C) from rfl]
    cases ho : (mkv (W i) (W j) u (im, U, C)).1
    · obtain ⟨q0, q1⟩ := q01 ho
      cases hf : (mkv (W i) (W j) u (im, U, C)).2.2.1
      · exact ⟨fun _ => ⟨fun z => absurd rfl z, fun _ => q0 hf _ _ _ _ _ _ _ _ _ hS'⟩, fun z => absurd rfl z⟩
      · refine ⟨fun _ => ⟨fun _ => ⟨g1, g2, by decide, by decide, nI_pos (by omega), ?_, ?_, ?_⟩, fun z => absurd z (by decide)⟩, fun z => absurd rfl z⟩
        · rw [cl45 (by omega)]
          have z0 : (0 : Int32).toNatClampNeg = 0 := by decide
          omega
        · rw [cl45 (by omega)]
          have z0 : (0 : Int32).toNatClampNeg = 0 := by decide
          omega
        · refine q1 hf _ _ _ _ _ _ _ _ _ ⟨a2, rfl, fun p hp => ?_⟩
          have z0 : (0 : Int32).toNatClampNeg = 0 := by decide
          have hp' : p < vP (W i) := hp
          unfold va_cpy
          rw [z0, cl45 (by omega), if_pos (by omega)]
          show (mkv (W i) (W j) u (im, U, C)).2.2.2 (0 + (p - 0)) = _
          rw [Nat.sub_zero, Nat.zero_add]
    · exact ⟨fun z => absurd z (by decide), fun _ => q6 ho _ _ _ _ _ _ _ _ _ hS'⟩
  · have q0 := s3 hsame
    refine ⟨fun _ => ?_, fun c3 => ⟨fun c4 => ?_, fun _ => ?_⟩⟩
    · exact ⟨fun _ => ⟨fun z => absurd rfl z, fun _ => q0 _ _ _ _ _ _ _ _ _ hS'⟩, fun z => absurd rfl z⟩
    · exact absurd ⟨(nI_eq (by omega) (by omega)).mp c3, (nI_eq (by omega) (by omega)).mp c4⟩ hsame
    · exact ⟨fun _ => ⟨fun z => absurd rfl z, fun _ => q0 _ _ _ _ _ _ _ _ _ hS'⟩, fun z => absurd rfl z⟩
end
