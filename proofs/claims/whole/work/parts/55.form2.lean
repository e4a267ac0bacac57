theorem chI_le {q a : Nat} : ∀ m b c c', chI q a m b c = some c' → c ≤ c' ∧ (c ≤ Pq q → c' ≤ Pq q)
  | 0, b, c, c', h => by
    rw [chI] at h
    cases h
    exact ⟨Nat.le_refl _, fun z => z⟩
  | m + 1, b, c, c', h => by
    rw [chI] at h
    split at h
    · split at h
      · rename_i hh
        obtain ⟨h1, h2⟩ := chI_le m _ _ _ h
        exact ⟨by omega, fun _ => h2 (by omega)⟩
      · cases h
    · exact chI_le m _ _ _ h
theorem nl_hs {q a k : Nat} (h : isQ q) (ha : a < Pq q) : hs (lN (nlF q a)) k = (nlF q a).testBit k := by
  have hP := Pq_le h
  exact hs_lNn (nl_lt h ha) (by omega)
theorem pw_lt {a P : Nat} (ha : a < P) (hP : P ≤ 40) : 2 ^ a < 2 ^ 64 := Nat.pow_lt_pow_right (by decide) (by omega)
theorem and_lt {x y n : Nat} (h : x < n) : x &&& y < n := Nat.lt_of_le_of_lt Nat.and_le_left h
theorem p40 {q : Nat} (h : isQ q) : 2 ^ Pq q < 2 ^ 64 := by
  have hP := Pq_le h
  exact Nat.pow_lt_pow_right (by decide) (by omega)
theorem cd_iff {q a b : Nat} (h : isQ q) (ha : a < Pq q) (hb : b < Pq q) : ((lN (nlF q a) &&& lN (nlF q b)) &&& blw b) = vshl 1 (nI a) ↔ (((nlF q a &&& nlF q b) &&& (2 ^ b - 1)) == 2 ^ a) = true := by
  have hP := Pq_le h
  have h1 := nl_lt h ha
  have h2 := p40 h
  rw [vshl_one (by omega), lN_andd]
  unfold blw
  rw [lN_andd, lN_inj (Nat.lt_trans (and_lt (and_lt h1)) h2) (pw_lt ha (by omega))]
  exact beq_iff_eq.symm
/-- what stands of the form's world while its lines are put in -/
def fmW (q c : Nat) (nr st th : Nat → Int64) : Prop := (∀ p, p < Pq q → nr p = lN (nlF q p)) ∧ (∀ l, l < c → st l = gF q l) ∧ ∀ p, p < Pq q → th p = thr (gF q) c p
theorem fmW_next {q c : Nat} (h : isQ q) (hc : c < Pq q) {nr st th : Nat → Int64} (w : fmW q c nr st th) : fmW q (c + 1) (upF nr (gF q c) (gF q c) (Pq q)) (vp_updL st c (gF q c)) (upF th (gF q c) (vshl 1 (nI c)) (Pq q)) := by
  have hP := Pq_le h
  obtain ⟨w1, w2, w3⟩ := w
  have hb : ∀ p, hs (gF q c) p = (flQ q c).testBit p := fun p => hs_lNn (fl_lt h hc) (by omega)
  refine ⟨fun p hp => ?_, fun l hl => ?_, fun p hp => ?_⟩
  · unfold upF
    by_cases e : p < Pq q ∧ hs (gF q c) p = true
    · rw [if_pos e, w1 p hp]
      have := fl_in h hc hp (by rw [← hb]; exact e.2)
      show lN (nlF q p) ||| lN (flQ q c) = _
      rw [lN_orr, this]
    · rw [if_neg e]; exact w1 p hp
  · unfold vp_updL
    by_cases e : l = c
    · rw [if_pos e, e]
    · rw [if_neg e]; exact w2 l (by omega)
  · unfold upF
    rw [thr]
    by_cases e : hs (gF q c) p = true
    · rw [if_pos ⟨hp, e⟩, if_pos e, w3 p hp]
    · rw [if_neg (fun z => e z.2), if_neg e]; exact w3 p hp
theorem s_makeForm {q : Nat} (h : isQ q) {z0 z1 z2 z3 z4 : Int32} {nr st th : Nat → Int64} {Q : QW} (k : ∀ nr st th, okW (Pq q) (Pq q) (gF q) (nI (Pq q)) (nI (Pq q)) nr st th → Q 1 2 (nI q) (nI (Pq q)) (nI (Pq q)) nr st th) : w_X1_makeForm (nI q) z0 z1 z2 z3 z4 nr st th Q := by
  have hq := isQ_le h
  have hR := Rq_le h
  have hP := Pq_le h
  have e1 : nI q - 1 = nI (q - 1) := nI_sub1 (by omega)
  have e2 : (((nI q * nI q * nI q * nI q) - 1) / (nI q - 1)) = nI (Pq q) := by
    rcases h with rfl | rfl
    · decide
    · decide
  refine ⟨by rw [e1]; exact nI_ne0 (by omega) (by omega), s_begin ?_⟩
  rw [e2]
  generalize hnr : flF nr (fun p => vshl 1 (nI p)) 45 = nr0
  have hth : ∀ p, p < Pq q → flF th (fun _ => 0) 45 p = thr (gF q) 0 p := fun p hp => by
    unfold flF
    rw [if_pos (by omega)]; rfl
  generalize flF th (fun _ => 0) 45 = th0 at hth ⊢
  -- the lines
  have lines : ∀ nr1, (∀ p, p < Pq q → nr1 p = lN (nlF q p)) → w_X1_makeForm_70 1 2 (nI q) (nI (Pq q)) 0 nr1 st th0 Q := by
    intro nr1 hn1
    have inner : ∀ a, a < Pq q → ∀ (K : Int32 → Int32 → (Nat → Int64) → (Nat → Int64) → (Nat → Int64) → Prop) (c' : Nat), (∀ nr st th, fmW q c' nr st th → K (nI (a + 1)) (nI c') nr st th) → ∀ m b c nr st th, m + b = Pq q → a < b → fmW q c nr st th → c ≤ Pq q → chI q a m b c = some c' → w_X1_makeForm_88 (nI a) 1 2 (nI q) (nI (Pq q)) K Q (m + 1) (nI b) (nI c) nr st th := by
      intro a ha K c' hK m
      induction m with
      | zero =>
        intro b c nr st th hb hab w hc hch
        have : b = Pq q := by omega
        subst this
        rw [chI] at hch
        cases hch
        refine pk_le (Pq q) (Pq q) (fun _ => ?_) (fun z => by omega)
        rw [nI_1]; exact hK _ _ _ w
      | succ m ih =>
        intro b c nr st th hb hab w hc hch
        have hw := w
        obtain ⟨w1, w2, w3⟩ := w
        rw [chI] at hch
        have skip : cdQ q a b = false → w_X1_makeForm_148 (nI a) (nI b) 1 2 (nI q) (nI (Pq q)) (nI c) nr st th K (w_X1_makeForm_88 (nI a) 1 2 (nI q) (nI (Pq q)) K Q (m + 1)) Q := fun z => by
          rw [z, if_neg (by simp)] at hch
          show w_X1_makeForm_88 _ _ _ _ _ K Q (m + 1) (nI b + 1) _ _ _ _
          rw [nI_1]
          exact ih (b + 1) c nr st th (by omega) (by omega) hw hc hch
        refine pk_le (Pq q) b (fun z => by omega) (fun _ => ⟨in45 (by omega), in45 (by omega), ?_⟩)
        refine s_areNear (P := Pq q) (by omega) ha (by omega) (fun bt => ⟨fun z => absurd z (by decide), fun _ => ?_⟩) (fun bt => ⟨fun _ => skip ?_, fun z => absurd rfl z⟩)
        · rw [w1 a ha, nl_hs h ha] at bt
          rw [cl45 (i := a) (by omega), cl45 (i := b) (by omega), w1 a ha, w1 b (by omega)]
          refine s_below (by omega) ?_
          rw [lgc, cd_iff h ha (by omega)]
          refine ⟨fun z => skip ?_, fun z => ?_⟩
          · unfold cdQ
            rw [bt, Bool.true_and]
            exact bool_ff z
          · have hcd : cdQ q a b = true := by unfold cdQ; rw [bt, Bool.true_and]; exact z
            rw [hcd, if_pos rfl] at hch
            by_cases hh : c < Pq q ∧ flQ q c = (nlF q a &&& nlF q b)
            · rw [if_pos hh] at hch
              rw [lN_andd, ← hh.2, show lN (flQ q c) = gF q c from rfl]
              refine s_add (by omega) (by omega) ?_
              show w_X1_makeForm_88 _ _ _ _ _ K Q (m + 1) (nI b + 1) _ _ _ _
              rw [nI_1 b]
              exact ih (b + 1) (c + 1) _ _ _ (by omega) (by omega) (fmW_next h hh.1 hw) (by omega) hch
            · rw [if_neg hh] at hch; cases hch
        · rw [w1 a ha, nl_hs h ha] at bt
          unfold cdQ
          rw [bt]; rfl
    have outer : ∀ m a c nr st th, m + a = Pq q → fmW q c nr st th → c ≤ Pq q → chO q m a c = some (Pq q) → w_X1_makeForm_73 1 2 (nI q) (nI (Pq q)) Q (m + 1) (nI a) (nI c) nr st th := by
      intro m
      induction m with
      | zero =>
        intro a c nr st th ha w hc hch
        have : a = Pq q := by omega
        subst this
        rw [chO] at hch
        cases hch
        refine pk_le (Pq q) (Pq q) (fun _ => k _ _ _ ⟨rfl, rfl, w.2.1, fun p hp => ⟨?_, w.2.2 p hp⟩⟩) (fun z => by omega)
        rw [w.1 p hp, nrs_gF h hp]
      | succ m ih =>
        intro a c nr st th ha w hc hch
        rw [chO] at hch
        cases hci : chI q a (Pq q - (a + 1)) (a + 1) c with
        | none => rw [hci] at hch; cases hch
        | some c' =>
          rw [hci] at hch
          have hcc := (chI_le _ _ _ _ hci).2 hc
          refine pk_le (Pq q) a (fun z => by omega) (fun _ => ⟨Pq q - (a + 1) + 1, ?_⟩)
          rw [nI_1]
          exact inner a (by omega) _ c' (fun nr st th w => ih (a + 1) c' nr st th (by omega) w hcc hch) (Pq q - (a + 1)) (a + 1) c nr st th (by omega) (by omega) w hc hci
    exact ⟨Pq q + 1, outer (Pq q) 0 0 nr1 st th0 (by omega) ⟨hn1, fun l hl => absurd hl (Nat.not_lt_zero _), hth⟩ (Nat.zero_le _) (eq_of_beq (k3_q h))⟩
  -- the points
  have pts : ∀ m o p nr1, m + o = Rq q → ckP q m o p = true → (∀ k, k < p → nr1 k = lN (nlF q k)) → p ≤ Pq q → ∃ n, w_X1_makeForm_26 (nI q) (nI (Rq q)) 1 2 (nI q) (nI (Pq q)) 0 st th0 Q n (nI p) (nI o) nr1 := by
    intro m
    induction m with
    | zero =>
      intro o p nr1 ho hk hn1 hp
      have : o = Rq q := by omega
      subst this
      rw [ckP] at hk
      have hpe := eq_of_beq hk
      exact ⟨1, pk_le (Rq q) (Rq q) (fun _ => lines nr1 (fun p' hp' => hn1 p' (by omega))) (fun z => by omega)⟩
    | succ m ih =>
      intro o p nr1 ho hk hn1 hp
      rw [ckP] at hk
      by_cases hfull : p = Pq q
      · exact ⟨1, pk_le (Rq q) o (fun z => by omega) (fun _ => pk_le (Pq q) p (fun _ => lines nr1 (fun p' hp' => hn1 p' (by omega))) (fun z => by omega))⟩
      · by_cases c : frs q o = 1
        · rw [if_pos c, Bool.and_eq_true, Bool.and_eq_true] at hk
          obtain ⟨-, hpc, hk⟩ := hk
          have hpc := eq_of_beq hpc
          obtain ⟨n, hn⟩ := ih (o + 1) (p + 1) (vp_updL nr1 p (lN (nlF q p))) (by omega) hk (fun k hk' => by
            unfold vp_updL
            by_cases e : k = p
            · rw [if_pos e, e]
            · rw [if_neg e]; exact hn1 k (by omega)) (by omega)
          refine ⟨n + 1, pk_le (Rq q) o (fun z => by omega) (fun _ => pk_le (Pq q) p (fun z => by omega) (fun _ => s_isFormPoint h (by omega) (fun _ => ⟨fun d => absurd d (by decide), fun _ => s_nearByForm h (by omega) ⟨in45 (by omega), ?_⟩⟩) (fun d => absurd c d)))⟩
          rw [cl45 (by omega), ← hpc, nl_nb h (by omega), hpc]
          show w_X1_makeForm_26 _ _ _ _ _ _ _ _ _ Q n (nI p + 1) (nI o + 1) _
          rw [nI_1, nI_1]; exact hn
        · rw [if_neg c] at hk
          obtain ⟨n, hn⟩ := ih (o + 1) p nr1 (by omega) hk hn1 hp
          refine ⟨n + 1, pk_le (Rq q) o (fun z => by omega) (fun _ => pk_le (Pq q) p (fun z => by omega) (fun _ => s_isFormPoint h (by omega) (fun d => absurd d c) (fun _ => ⟨fun _ => ?_, fun d => absurd rfl d⟩)))⟩
          show w_X1_makeForm_26 _ _ _ _ _ _ _ _ _ Q n (nI p) (nI o + 1) _
          rw [nI_1]; exact hn
  have := pts (Rq q - 1) 1 0 nr0 (by omega) (k1_q h) (fun k hk => absurd hk (Nat.not_lt_zero _)) (Nat.zero_le _)
  rw [pk_mul, pk_mul, pk_mul]
  exact this
/-! the reference's form -/
theorem m_in23 {x : Int32} {Q : Int32 → Prop} (ht : ∀ q, isQ q → x = nI q → Q 1) (hf : (¬ ∃ q, isQ q ∧ x = nI q) → Q 0) : w_X7_in x 2 3 Q := by
  refine m_in (fun c d => ?_) (fun c => hf ?_)
  · have h0 : ¬ x < 0 := fun z => c (by
      rw [fa_lt] at z ⊢
      have e2 : (2 : Int32).toInt = 2 := by decide
      have e0 : (0 : Int32).toInt = 0 := by decide
      omega)
    obtain ⟨a, ha, rfl⟩ := nI_of h0
    have h1 : ¬ a < 2 := fun z => c ((nI_ltI ha (by decide)).mpr z)
    have h2 : ¬ 3 < a := fun z => d ((nI_ltI (by decide) ha).mpr z)
    refine ht a ?_ rfl
    unfold isQ
    omega
  · rintro ⟨q, hq, rfl⟩
    have := isQ_le hq
    rcases c with c | c
    · have := (nI_ltI (by omega) (by decide)).mp (show nI q < nI 2 from c); omega
    · have := (nI_ltI (by decide) (by omega)).mp (show nI 3 < nI q from c); omega
/-- the letters of the points so far -/
def ltW (q np : Nat) (lt : Nat → Int32) : Prop := ∀ p, p < np → ∀ i, i < 4 → lt (4 * p + i) = nI (dq q (pcF q p) i)
theorem lx {p : Nat} : (4 : Int32) * nI p = nI (4 * p) := by
  rw [show (4 : Int32) = nI 4 from rfl, pk_mul]
theorem lx_e {p i : Nat} : (4 : Int32) * nI p + nI i = nI (4 * p + i) := by rw [lx, nI_add]
theorem lx_in {p i : Nat} (hp : p < 40) (hi : i < 4) : vp_in ((4 : Int32) * nI p + nI i) 160 := by
  rw [lx_e]; exact vp_in_nI (by omega) (by decide)
theorem lx_in0 {p : Nat} (hp : p < 40) : vp_in ((4 : Int32) * nI p) 160 := by
  rw [lx]; exact vp_in_nI (by omega) (by decide)
theorem lx_c {p i : Nat} (hp : p < 40) (hi : i < 4) : ((4 : Int32) * nI p + nI i).toNatClampNeg = 4 * p + i := by
  rw [lx_e]; exact nI_clamp (by omega)
theorem lx_c0 {p : Nat} (hp : p < 40) : ((4 : Int32) * nI p).toNatClampNeg = 4 * p := by
  rw [lx]; exact nI_clamp (by omega)
theorem m_isPerp {q a b : Nat} (h : isQ q) (ha : a < Pq q) (hb : b < Pq q) {lt : Nat → Int32} (hl : ltW q (Pq q) lt) {Q : Int32 → Prop} (h1 : (nlF q a).testBit b = true → Q 1) (h0 : (nlF q a).testBit b = false → Q 0) : w_X7_isPerp (nI a) (nI b) (nI q) lt Q := by
  have hq := isQ_le h
  have hP := Pq_le h
  have k8 := rg_at (rg_at (k8_q h) ha) hb
  rw [Bool.and_eq_true, Bool.and_eq_true] at k8
  have k8 := eq_of_beq k8.1.1
  refine ⟨lx_in0 (by omega), lx_in (i := 1) (by omega) (by omega), lx_in (i := 1) (by omega) (by omega), lx_in0 (by omega), lx_in (i := 2) (by omega) (by omega), lx_in (i := 3) (by omega) (by omega), lx_in (i := 3) (by omega) (by omega), lx_in (i := 2) (by omega) (by omega), fun y hy => ⟨nI_ne0 (by omega) (by omega), ?_⟩⟩
  have r : ∀ p, p < Pq q → ∀ i, i < 4 → lt ((4 : Int32) * nI p + nI i).toNatClampNeg = nI (dq q (pcF q p) i) := fun p hp i hi => by rw [lx_c (by omega) hi]; exact hl p hp i hi
  have r0 : ∀ p, p < Pq q → lt ((4 : Int32) * nI p).toNatClampNeg = nI (dq q (pcF q p) 0) := fun p hp => by rw [lx_c0 (by omega)]; exact hl p hp 0 (by omega)
  have ra1 := r a ha 1 (by omega)
  have ra2 := r a ha 2 (by omega)
  have ra3 := r a ha 3 (by omega)
  have rb1 := r b hb 1 (by omega)
  have rb2 := r b hb 2 (by omega)
  have rb3 := r b hb 3 (by omega)
  change lt ((4 : Int32) * nI a + 1).toNatClampNeg = _ at ra1
  change lt ((4 : Int32) * nI a + 2).toNatClampNeg = _ at ra2
  change lt ((4 : Int32) * nI a + 3).toNatClampNeg = _ at ra3
  change lt ((4 : Int32) * nI b + 1).toNatClampNeg = _ at rb1
  change lt ((4 : Int32) * nI b + 2).toNatClampNeg = _ at rb2
  change lt ((4 : Int32) * nI b + 3).toNatClampNeg = _ at rb3
  rw [r0 a ha, r0 b hb, ra1, ra2, ra3, rb1, rb2, rb3, pk_mul, pk_mul, pk_mul, pk_mul] at hy
  rw [hy]
  have l : ∀ p, p < Pq q → ∀ i, i < 4 → dq q (pcF q p) i < q := fun p hp i hi => dq_lt h (pc_lt h hp) hi
  have e := zf_q h (mul_lt5 h (l a ha 0 (by omega)) (l b hb 1 (by omega))) (mul_lt5 h (l a ha 1 (by omega)) (l b hb 0 (by omega))) (mul_lt5 h (l a ha 2 (by omega)) (l b hb 3 (by omega))) (mul_lt5 h (l a ha 3 (by omega)) (l b hb 2 (by omega)))
  have e2 : vrem (((nI (dq q (pcF q a) 0 * dq q (pcF q b) 1) - nI (dq q (pcF q a) 1 * dq q (pcF q b) 0)) + nI (dq q (pcF q a) 2 * dq q (pcF q b) 3)) - nI (dq q (pcF q a) 3 * dq q (pcF q b) 2)) (nI q) = 0 ↔ (nlF q a).testBit b = true := by
    rw [← k8]; exact e
  exact ⟨fun c => ⟨Or.inl rfl, h0 (bool_ff (fun z => c (e2.mpr z)))⟩, fun c => ⟨Or.inr rfl, h1 (e2.mp c)⟩⟩
def lfb (q : Nat) : Bool := rg 5 fun a => rg 5 fun b => rg 3 fun c => decide (vrem ((nI a + nI b) - nI c) (nI q) = 0) == ((a + b + (q - 1) * c) % q == 0)
theorem lfb_2 : lfb 2 = true := by decide +kernel
theorem lfb_3 : lfb 3 = true := by decide +kernel
theorem lf_q {q : Nat} (h : isQ q) {a b c : Nat} (ha : a < 5) (hb : b < 5) (hc : c < 3) : vrem ((nI a + nI b) - nI c) (nI q) = 0 ↔ ((a + b + (q - 1) * c) % q == 0) = true := by
  have k : lfb q = true := by
    rcases h with rfl | rfl
    · exact lfb_2
    · exact lfb_3
  rw [← eq_of_beq (rg_at (rg_at (rg_at k ha) hb) hc)]
  exact decide_eq_true_iff.symm
theorem m_lineOf {q a b : Nat} (h : isQ q) (ha : a < Pq q) (hb : b < Pq q) {lt : Nat → Int32} (hl : ltW q (Pq q) lt) {Q : Int64 → Prop} (k : Q (lN (loC q a b (Pq q) 0 (2 ^ a ||| 2 ^ b)))) : w_X7_lineOf (nI a) (nI b) (nI q) (nI (Pq q)) lt Q := by
  have hq := isQ_le h
  have hP := Pq_le h
  have l : ∀ p, p < Pq q → ∀ i, i < 4 → dq q (pcF q p) i < q := fun p hp i hi => dq_lt h (pc_lt h hp) hi
  have r : ∀ p, p < Pq q → ∀ i, i < 4 → lt ((4 : Int32) * nI p + nI i).toNatClampNeg = nI (dq q (pcF q p) i) := fun p hp i hi => by rw [lx_c (by omega) hi]; exact hl p hp i hi
  unfold w_X7_lineOf
  rw [vshl_one (by omega), vshl_one (by omega), lN_orr]
  -- one sum
  have four : ∀ c m n, c < Pq q → 1 ≤ m → m < q → 1 ≤ n → n < q → ∀ (acc : Nat) (K12 K24 K33 : Int64 → Int32 → Prop), K33 (lN (if okM q a b c m n then acc ||| 2 ^ c else acc)) (nI (n + 1)) → ∃ N, w_X7_lineOf_45 (nI a) (nI b) (nI q) (lN acc) (nI c) (nI m) (nI n) (nI (Pq q)) lt K12 K24 K33 Q N 1 0 := by
    intro c m n hc hm1 hm hn1 hn acc K12 K24 K33 hK
    refine pk_loop (fun N i (y : Int32) => w_X7_lineOf_45 (nI a) (nI b) (nI q) (lN acc) (nI c) (nI m) (nI n) (nI (Pq q)) lt K12 K24 K33 Q N y (nI i)) (fun i y => ((∀ j, j < i → ((m * dq q (pcF q a) j + n * dq q (pcF q b) j + (q - 1) * dq q (pcF q c) j) % q == 0) = true) → y = 1) ∧ ((¬ ∀ j, j < i → ((m * dq q (pcF q a) j + n * dq q (pcF q b) j + (q - 1) * dq q (pcF q c) j) % q == 0) = true) → y = 0)) 4 0 1 (by omega) ⟨fun _ => rfl, fun z => absurd (fun j hj => absurd hj (Nat.not_lt_zero _)) z⟩ (fun N y hy => ?_) (fun N i y hi hy ih => ?_)
    · refine pk_le 4 4 (fun _ => ?_) (fun z => by omega)
      by_cases hall : ∀ j, j < 4 → ((m * dq q (pcF q a) j + n * dq q (pcF q b) j + (q - 1) * dq q (pcF q c) j) % q == 0) = true
      · rw [hy.1 hall]
        have hok : okM q a b c m n = true := List.all_eq_true.mpr (fun j hj => hall j (List.mem_range.mp hj))
        rw [hok, if_pos rfl] at hK
        refine ⟨fun z => absurd z (by decide), fun _ => ?_⟩
        show K33 (lN acc ||| vshl 1 (nI c)) (nI n + 1)
        rw [vshl_one (by omega), lN_orr, nI_1]; exact hK
      · rw [hy.2 hall]
        have hok : okM q a b c m n = false := bool_ff (fun z => hall (fun j hj => List.all_eq_true.mp z j (List.mem_range.mpr hj)))
        rw [hok, if_neg (by simp)] at hK
        refine ⟨fun _ => ?_, fun z => absurd rfl z⟩
        show K33 (lN acc ||| 0) (nI n + 1)
        rw [or0, nI_1]; exact hK
    · refine pk_le 4 i (fun z => by omega) (fun _ => ⟨fun d => ?_, fun d => ⟨lx_in (by omega) hi, lx_in (by omega) hi, lx_in (by omega) hi, nI_ne0 (by omega) (by omega), ?_⟩⟩)
      · have hno : ¬ ∀ j, j < i → ((m * dq q (pcF q a) j + n * dq q (pcF q b) j + (q - 1) * dq q (pcF q c) j) % q == 0) = true := fun z => by
          rw [hy.1 z] at d; exact absurd d (by decide)
        show w_X7_lineOf_45 _ _ _ _ _ _ _ _ _ K12 K24 K33 Q N 0 (nI i + 1)
        rw [nI_1]
        exact ih 0 ⟨fun z => absurd (fun j hj => z j (by omega)) hno, fun _ => rfl⟩
      · have hall : ∀ j, j < i → ((m * dq q (pcF q a) j + n * dq q (pcF q b) j + (q - 1) * dq q (pcF q c) j) % q == 0) = true := Classical.byContradiction fun z => d (hy.2 z)
        rw [r a ha i hi, r b hb i hi, r c hc i hi, pk_mul, pk_mul, lf_q h (mul_lt5 h hm (l a ha i hi)) (mul_lt5 h hn (l b hb i hi)) (by have := l c hc i hi; omega)]
        refine ⟨fun z => ?_, fun z => ?_⟩
        · show w_X7_lineOf_45 _ _ _ _ _ _ _ _ _ K12 K24 K33 Q N 0 (nI i + 1)
          rw [nI_1]
          exact ih 0 ⟨fun zz => absurd (zz i (by omega)) z, fun _ => rfl⟩
        · show w_X7_lineOf_45 _ _ _ _ _ _ _ _ _ K12 K24 K33 Q N 1 (nI i + 1)
          rw [nI_1]
          refine ih 1 ⟨fun _ => rfl, fun zz => absurd (fun j hj => ?_) zz⟩
          by_cases e : j = i
          · rw [e]; exact z
          · exact hall j (by omega)
  have lpN : ∀ c m, c < Pq q → 1 ≤ m → m < q → ∀ (K12 K24 : Int64 → Int32 → Prop) (x n acc : Nat), x + n = q → 1 ≤ n → K24 (lN (loN q a b c m x n acc)) (nI (m + 1)) → ∃ N, w_X7_lineOf_33 (nI a) (nI b) (nI q) (nI c) (nI m) (nI (Pq q)) lt K12 K24 Q N (lN acc) (nI n) := by
    intro c m hc hm1 hm K12 K24 x
    induction x with
    | zero =>
      intro n acc hn _ hK
      have : n = q := by omega
      subst this
      refine ⟨1, pk_le n n (fun _ => ?_) (fun z => by omega)⟩
      rw [nI_1]; exact hK
    | succ x ih =>
      intro n acc hn hn1 hK
      rw [loN] at hK
      obtain ⟨N, hN⟩ := ih (n + 1) _ (by omega) (by omega) hK
      exact ⟨N + 1, pk_le q n (fun z => by omega) (fun _ => four c m n hc hm1 hm hn1 (by omega) acc K12 K24 _ hN)⟩
  have lpM : ∀ c, c < Pq q → ∀ (K12 : Int64 → Int32 → Prop) (x m acc : Nat), x + m = q → 1 ≤ m → K12 (lN (loM q a b c x m acc)) (nI (c + 1)) → ∃ N, w_X7_lineOf_24 (nI a) (nI b) (nI q) (nI c) (nI (Pq q)) lt K12 Q N (lN acc) (nI m) := by
    intro c hc K12 x
    induction x with
    | zero =>
      intro m acc hm _ hK
      have : m = q := by omega
      subst this
      refine ⟨1, pk_le m m (fun _ => ?_) (fun z => by omega)⟩
      rw [nI_1]; exact hK
    | succ x ih =>
      intro m acc hm hm1 hK
      rw [loM] at hK
      obtain ⟨N, hN⟩ := ih (m + 1) _ (by omega) (by omega) hK
      exact ⟨N + 1, pk_le q m (fun z => by omega) (fun _ => lpN c m hc hm1 (by omega) K12 _ (q - 1) 1 acc (by omega) (by omega) hN)⟩
  have lpC : ∀ (x c acc : Nat), x + c = Pq q → Q (lN (loC q a b x c acc)) → ∃ N, w_X7_lineOf_12 (nI a) (nI b) (nI q) (nI (Pq q)) lt Q N (lN acc) (nI c) := by
    intro x
    induction x with
    | zero =>
      intro c acc hc hK
      have : c = Pq q := by omega
      subst this
      exact ⟨1, pk_le (Pq q) (Pq q) (fun _ => hK) (fun z => by omega)⟩
    | succ x ih =>
      intro c acc hc hK
      rw [loC] at hK
      obtain ⟨N, hN⟩ := ih (c + 1) _ (by omega) hK
      exact ⟨N + 1, pk_le (Pq q) c (fun z => by omega) (fun _ => lpM c (by omega) _ (q - 1) 1 acc (by omega) (by omega) hN)⟩
  exact lpC (Pq q) 0 _ (by omega) k
