/-! the class's rows, and what it tells -/
section
variable {R : AR} {x : Int32} {f : Nat} {rp : Nat → Option Nat} {oP : Nat} {rs g : Nat → Int32} {fd : Int32} {fs : Nat → Int32}
/-- what a call leaves of the rows: the focused one, and the sizes -/
def FR (R R' : AR) (f : Nat) (rs g : Nat → Int32) : Prop := RS R' rs ∧ RC (R' f) g ∧ ∀ i, i ≠ f → R' i = R i
theorem FR_same (h : RO R x f rp oP rs g) : FR R R f rs g := ⟨h.1, h.2.2.2.2, fun _ _ => rfl⟩
theorem upR_same {R : AR} {k : Nat} {v : RV} : upR R k v k = v := if_pos rfl
theorem upR_ne {R : AR} {k i : Nat} {v : RV} (h : i ≠ k) : upR R k v i = R i := if_neg h
theorem FR_put (h : RO R x f rp oP rs g) {v : RV} (hv : rN v ≤ 13) {rs' g' : Nat → Int32} (h1 : rs' f = nI (rN v) - 1) (h2 : ∀ j, j ≠ f → rs' j = rs j) (h3 : RC v g') : FR R (upR R f v) f rs' g' := by
  refine ⟨⟨upR_ok h.1.1 hv, fun j hj => ?_⟩, by rw [upR_same]; exact h3, fun i hi => upR_ne hi⟩
  by_cases e : j = f
  · rw [e, upR_same]; exact h1
  · rw [upR_ne e, h2 j e]; exact h.1.2 j hj
theorem s_row (h : RO R x f rp oP rs g) {n : Int32} {Q : Int32 → Int32 → (Nat → Int32) → (Nat → Int32) → (Nat → Int32) → Prop} (s : sp_row R x n fd fs (fun r fd fs R' => ∀ g rs, FR R R' f rs g → Q r fd g fs rs)) : w_X6_row x n fd g fs rp rs oP Q := by
  refine s_isR (fun j hj e => ⟨fun c => absurd c (by decide), fun _ => ?_⟩) (fun hn => ⟨fun _ => s.1 hn _ _ (FR_same h), fun c => absurd rfl c⟩)
  obtain ⟨r1, r2⟩ := RO_g h hj e
  have ej := h.2.2.2.1 j hj e
  subst ej
  obtain ⟨s1, s2, s3⟩ := s.2 j hj e
  have hr2 := h.2.2.1
  subst e
  refine ⟨fun c => ⟨fun d => ?_, fun d => s_refused (k := 5) (by decide) (s2 ?_ _ _ (FR_same h))⟩, fun c => s1 ?_ _ _ (FR_same h)⟩
  · obtain ⟨k, hk, rfl⟩ := nI_of2 (M := 12) (n := 12) (by decide) ((pl_iff n).mp d) c
    have q := s3 k hk rfl
    refine pk_loop (fun m i (g : Nat → Int32) => w_X6_row_27 (nI j) (nI k) fd fs rp rs oP Q m (nI i) g) (fun i g => ∀ p, p < i → g p = 0) k 0 g (Nat.zero_le _) (fun p hp => absurd hp (Nat.not_lt_zero _)) (fun m g hg => ?_) (fun m i g hi hg ih => ?_)
    · refine pk_le k k (fun _ => ⟨in4 hj, ?_⟩) (fun c => by omega)
      rw [cl45 (by omega)]
      refine q _ _ (FR_put h (by show k + 1 ≤ 13; omega) (by rw [upd_same]; exact (nI_pred k).symm) (fun i hi => upd_ne hi) (fun m hm i hi => ?_))
      have : m = k := by
        have : k + 1 = m + 1 := hm
        omega
      subst this
      exact hg i hi
    · refine pk_le k i (fun c => by omega) (fun _ => ⟨in4 hj, ?_⟩)
      rw [cl45 (by omega)]
      refine ⟨hr2, vp_in_nI (by omega) (by decide), ?_⟩
      rw [cl45 (by omega), nI_1]
      refine ih _ (fun p hp => ?_)
      by_cases e : p = i
      · rw [e, upd_same]
      · rw [upd_ne e]; exact hg p (by omega)
  · rw [pl_iff] at d
    exact Classical.not_not.mp d
  · rw [fa_le] at c
    rw [fa_lt]
    omega
theorem s_lay (h : RO R x f rp oP rs g) {i v : Int32} {Q : Int32 → Int32 → (Nat → Int32) → (Nat → Int32) → Prop} (s : sp_lay R x i v fd fs (fun r fd fs R' => ∀ g, FR R R' f rs g → Q r fd g fs)) : w_X6_lay x i v fd g fs rp rs oP Q := by
  refine s_isR (fun j hj e => ⟨fun _ => ?_, fun c => absurd c (by decide)⟩) (fun hn => ⟨fun c => absurd rfl c, fun _ => s.1 hn _ (FR_same h)⟩)
  obtain ⟨r1, r2⟩ := RO_g h hj e
  have ej := h.2.2.2.1 j hj e
  subst ej
  obtain ⟨s1, s2⟩ := s.2 j hj e
  have hr2 := h.2.2.1
  have hb := h.1.1 j hj
  obtain ⟨z1, z2, z3⟩ := RS_0 h.1 hj
  subst e
  refine ⟨in4 hj, ?_⟩
  rw [cl45 (by omega), z1]
  refine ⟨fun c => ?_, fun c => s_refused (k := 1) (by decide) (s1 (Classical.not_not.mp c) _ (FR_same h))⟩
  obtain ⟨n, hn⟩ : ∃ n, rN (R j) = n + 1 := ⟨rN (R j) - 1, by omega⟩
  obtain ⟨q1, q2⟩ := s2 n hn
  have rsn := z3 n hn
  have hg := h.2.2.2.2 n hn
  rw [rsn]
  have bad : ¬ num i n → w_X6_lay_38 fd g fs rp rs oP Q := fun z => s_refused (k := 2) (by decide) (q1 z _ (FR_same h))
  by_cases hi : num i n
  · obtain ⟨k, hk, rfl⟩ := hi
    refine ⟨fun d => absurd d (nI_pos (by omega)), fun _ => ⟨in4 hj, pk_lt k n (fun _ => ⟨in4 hj, hr2, vp_in_nI (by omega) (by decide), in4 hj, hr2, vp_in_nI (by omega) (by decide), ?_⟩) (fun d => by omega)⟩⟩
    rw [cl45 (by omega), hg k hk]
    refine q2 k hk rfl _ (FR_put h (by show n + 1 ≤ 13; omega) (by rw [rsn]; exact (nI_pred n).symm) (fun _ _ => rfl) (fun m hm p hp => ?_))
    have : m = n := by
      have : n + 1 = m + 1 := hm
      omega
    subst this
    by_cases e : p = k
    · subst e
      rw [upd_same]
      exact (upd_same _ _ _).symm
    · rw [upd_ne e]
      show g p = upd (rV (R j)) k v p
      rw [upd_ne e]
      exact hg p hp
  · refine ⟨fun _ => bad hi, fun d => ⟨in4 hj, fun d2 => absurd ?_ hi, fun _ => bad hi⟩⟩
    obtain ⟨k, hk, rfl⟩ := nI_of d
    exact ⟨k, (nI_ltI hk (by omega)).mp d2, rfl⟩
theorem s_tear (h : RO R x f rp oP rs g) {Q : Int32 → Int32 → (Nat → Int32) → (Nat → Int32) → Prop} (s : sp_tear R x fd fs (fun r fd fs R' => ∀ rs, FR R R' f rs g → Q r fd fs rs)) : w_X6_tear x fd fs rs Q := by
  refine s_isR (fun j hj e => ⟨fun _ => ?_, fun c => absurd c (by decide)⟩) (fun hn => ⟨fun c => absurd rfl c, fun _ => s.1 hn _ (FR_same h)⟩)
  have ej := h.2.2.2.1 j hj e
  subst ej
  obtain ⟨s1, s2⟩ := s.2 j hj e
  have hb := h.1.1 j hj
  obtain ⟨z1, z2, z3⟩ := RS_0 h.1 hj
  subst e
  refine ⟨in4 hj, ?_⟩
  rw [cl45 (by omega), z1]
  refine ⟨fun c => ⟨in4 hj, ?_⟩, fun c => s_refused (k := 1) (by decide) (s1 (Classical.not_not.mp c) _ (FR_same h))⟩
  obtain ⟨n, hn⟩ : ∃ n, rN (R j) = n + 1 := ⟨rN (R j) - 1, by omega⟩
  exact s2 n hn _ (FR_put h (by show 0 ≤ 13; omega) (by rw [upd_same]; decide) (fun i hi => upd_ne hi) (fun m hm => by cases hm))
theorem s_hasPlaces {j : Nat} (hj : j < 4) {n : Nat} (hn : n ≤ 12) (hs' : rs j = nI n) {i k : Int32} (hk : ¬ k < 0) {Q : Int32 → Prop} (h1 : (∃ i' k', i = nI i' ∧ k = nI k' ∧ i' + k' ≤ n) → Q 1) (h0 : (¬ ∃ i' k', i = nI i' ∧ k = nI k' ∧ i' + k' ≤ n) → Q 0) : w_X6_rowHasPlaces (nI j) i k rs Q := by
  obtain ⟨k', hk', rfl⟩ := nI_of hk
  refine ⟨fun c => ⟨Or.inl rfl, h0 ?_⟩, fun c => ⟨in4 hj, ?_⟩⟩
  · rintro ⟨i', k2, rfl, e, hle⟩
    have hk2 : k2 < 2 ^ 31 := Classical.byContradiction fun z => by omega
    exact nI_pos (by omega) c
  · obtain ⟨i', hi', rfl⟩ := nI_of c
    rw [cl45 (by omega), hs']
    have one : ∀ k2, nI k' = nI k2 → k2 ≤ n → k2 = k' := fun k2 e hle => ((nI_eq hk' (by omega)).mp e).symm
    refine pk_lt n i' (fun c1 => ⟨Or.inl rfl, h0 ?_⟩) (fun c1 => ⟨in4 hj, ?_⟩)
    · rintro ⟨i2, k2, e1, e2, hle⟩
      have := (nI_eq hi' (by omega)).mp e1
      omega
    · rw [nI_sub c1]
      refine pk_lt (n - i') k' (fun c2 => ⟨Or.inl rfl, h0 ?_⟩) (fun c2 => ⟨Or.inr rfl, h1 ⟨i', k', rfl, rfl, by omega⟩⟩)
      rintro ⟨i2, k2, e1, e2, hle⟩
      have := (nI_eq hi' (by omega)).mp e1
      have := one k2 e2 (by omega)
      omega
theorem s_copy (h : RO R x f rp oP rs g) {to : Int32} {f2 oO : Nat} {g2 : Nat → Int32} (h2 : RO R to f2 rp oO rs g2) {i k n : Int32} {Q : Int32 → Int32 → (Nat → Int32) → (Nat → Int32) → Prop} (s : sp_copy R x i to k n fd fs (fun r fd fs R' => ∀ g2, FR R R' f2 rs g2 → Q r fd g2 fs)) : w_X6_copy x i to k n fd g2 g fs rp rs oP oO Q := by
  refine s_isR (fun a ha ea => ⟨fun c => absurd c (by decide), fun _ => ?_⟩) (fun hn => ⟨fun _ => s.1 (fun z => hn z.1) _ (FR_same h2), fun c => absurd rfl c⟩)
  refine s_isR (fun b hb eb => ⟨fun _ => ?_, fun c => absurd c (by decide)⟩) (fun hn => ⟨fun c => absurd rfl c, fun _ => s.1 (fun z => hn z.2) _ (FR_same h2)⟩)
  have e1 := h.2.2.2.1 a ha ea
  have e2 := h2.2.2.2.1 b hb eb
  subst e1; subst e2
  obtain ⟨s1, s2⟩ := s.2 a b ha hb ea eb
  have w1 := h.2.2.1
  have w2 := h2.2.2.1
  subst ea; subst eb
  rw [pl_iff]
  refine ⟨fun c => ⟨in4 ha, ?_⟩, fun c => s_refused (k := 5) (by decide) (s1 (Classical.not_not.mp c) _ (FR_same h2))⟩
  obtain ⟨s3, s4⟩ := s2 c
  obtain ⟨z1, z2, z3⟩ := RS_0 h.1 ha
  obtain ⟨y1, y2, y3⟩ := RS_0 h.1 hb
  rw [cl45 (by omega), z2]
  refine ⟨fun d => s_refused (k := 1) (by decide) (s3 (Or.inl d) _ (FR_same h2)), fun d => ⟨in4 hb, ?_⟩⟩
  rw [cl45 (by omega), y1]
  refine ⟨fun d2 => ?_, fun d2 => s_refused (k := 1) (by decide) (s3 (Or.inr (Classical.not_not.mp d2)) _ (FR_same h2))⟩
  have ba := h.1.1 a ha
  have bb := h.1.1 b hb
  obtain ⟨na, hna⟩ : ∃ n, rN (R a) = n + 1 := ⟨rN (R a) - 1, by omega⟩
  obtain ⟨nb, hnb⟩ : ∃ n, rN (R b) = n + 1 := ⟨rN (R b) - 1, by omega⟩
  obtain ⟨s5, s6⟩ := s4 na nb hna hnb
  have no : ¬ fits i k n na nb → w_X6_copy_74 fd g2 g fs rp rs oP oO Q := fun z => s_refused (k := 2) (by decide) (s5 z _ (FR_same h2))
  refine s_hasPlaces ha (by omega) (z3 na hna) c (fun ⟨i', n', ei, en, hle⟩ => ⟨fun z => absurd z (by decide), fun _ => ?_⟩) (fun hno => ⟨fun _ => no (fun ⟨i', k', n', f1, f2, f3, f4, f5⟩ => hno ⟨i', n', f1, f3, f4⟩), fun z => absurd rfl z⟩)
  refine s_hasPlaces hb (by omega) (y3 nb hnb) c (fun ⟨k', n2, ek, en2, hle2⟩ => ⟨fun _ => ?_, fun z => absurd z (by decide)⟩) (fun hno => ⟨fun z => absurd rfl z, fun _ => no (fun ⟨i', k', n', f1, f2, f3, f4, f5⟩ => hno ⟨k', n', f2, f3, f5⟩)⟩)
  have enn : n2 = n' := (nI_eq (by omega) (by omega)).mp (en2.symm.trans en)
  subst enn
  have q := s6 i' k' n2 ei ek en hle hle2
  subst ei; subst ek; subst en
  refine ⟨in4 ha, ?_⟩
  refine ⟨w1, in4 hb, ?_⟩
  refine ⟨w2, nI_pos (by omega), nI_pos (by omega), c, ?_⟩
  rw [cl45 (i := i') (by omega), cl45 (i := k') (by omega), cl45 (i := n2) (by omega)]
  refine ⟨by omega, by omega, q _ (FR_put h2 (by show nb + 1 ≤ 13; omega) (by rw [y3 nb hnb]; exact (nI_pred nb).symm) (fun _ _ => rfl) (fun m hm p hp => ?_))⟩
  have : m = nb := by
    have : nb + 1 = m + 1 := hm
    omega
  subst this
  show va_cpy g g2 i' k' n2 p = cpV (rV (R a)) (rV (R b)) i' k' n2 p
  unfold va_cpy cpV
  by_cases w : k' ≤ p ∧ p < k' + n2
  · rw [if_pos w, if_pos w]
    exact h.2.2.2.2 na hna _ (by omega)
  · rw [if_neg w, if_neg w]
    exact h2.2.2.2.2 m hnb p hp
end
theorem s_sent {x : Int32} {S : SV} {ss : Int32} {sn : Nat → Int32} (h : CS S ss sn) {Q : Int32 → Prop} (s : sp_sent x S.1 S.2 Q) : w_X6_sent x ss sn Q := by
  obtain ⟨h1, h2, h3⟩ := h
  subst h2
  refine ⟨fun c => s.2 ?_, fun c => ⟨fun d => ?_, fun d => s.2 ?_⟩⟩
  · rintro ⟨j, hj, rfl⟩
    exact nI_pos (by omega) c
  · obtain ⟨p, hp, rfl⟩ := nI_of c
    have hp2 := (nI_ltI hp (by omega)).mp d
    refine ⟨in45 (by omega), ?_⟩
    show Q _
    rw [cl45 (by omega), h3 p hp2]
    exact s.1 p hp2 rfl
  · rintro ⟨j, hj, rfl⟩
    exact d ((nI_ltI (by omega) (by omega)).mpr hj)
theorem s_findings {x : Int32} {fs : Nat → Int32} {Q : Int32 → Prop} (s : sp_findings x fs Q) : w_X6_findings x fs Q := by
  refine ⟨fun c => s.2 ?_, fun c => ⟨fun d => ?_, fun d => s.2 ?_⟩⟩
  · rintro ⟨k, h1, h2, rfl⟩
    have := (nI_ltI (by omega) (by decide)).mp (show nI k < nI 1 from c)
    omega
  · obtain ⟨k, h1, h2, rfl⟩ := btw (a := 1) (b := 5) (by decide) c (by rw [fa_le] at d; show ¬ (5 : Int32) < x; rw [fa_lt]; omega) (by decide)
    refine ⟨in6 (by omega), ?_⟩
    have := s.1 k h1 h2 rfl
    rw [cl45 (by omega)]
    exact this
  · rintro ⟨k, h1, h2, rfl⟩
    exact d ((nI_leI (b := 5) (by omega) (by decide)).mpr h2)
