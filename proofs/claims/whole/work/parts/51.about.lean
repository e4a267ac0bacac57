/-! a world made about a point -/
/-- lines put in one behind another: those of which cnd holds -/
def apG (cnd : Nat → Bool) (val : Nat → Int64) (g0 : Nat → Int64) (c0 : Nat) : Nat → (Nat → Int64)
  | 0 => g0
  | i + 1 => if cnd i then vp_updL (apG cnd val g0 c0 i) (c0 + fb_ct cnd i) (val i) else apG cnd val g0 c0 i
theorem ct_y {cnd : Nat → Bool} {c0 i : Nat} (h : cnd i = true) : c0 + fb_ct cnd (i + 1) = c0 + fb_ct cnd i + 1 := by
  rw [fb_ct_succ, h, if_pos rfl]
  omega
theorem ct_n {cnd : Nat → Bool} {c0 i : Nat} (h : cnd i = false) : c0 + fb_ct cnd (i + 1) = c0 + fb_ct cnd i := by
  rw [fb_ct_succ, h, if_neg (by simp), Nat.add_zero]
theorem apG_y {cnd : Nat → Bool} {val g0 : Nat → Int64} {c0 i : Nat} (h : cnd i = true) : apG cnd val g0 c0 (i + 1) = vp_updL (apG cnd val g0 c0 i) (c0 + fb_ct cnd i) (val i) := by rw [apG, if_pos h]
theorem apG_n {cnd : Nat → Bool} {val g0 : Nat → Int64} {c0 i : Nat} (h : cnd i = false) : apG cnd val g0 c0 (i + 1) = apG cnd val g0 c0 i := by rw [apG, if_neg (by rw [h]; simp)]
theorem apG_ok {cnd : Nat → Bool} {val g0 : Nat → Int64} {c0 P : Nat} (h1 : gOK g0 P c0) (h2 : gNE g0 c0) : ∀ i, (∀ j, j < i → cnd j = true → (∀ k, hs (val j) k = true → k < P) ∧ ∃ k, hs (val j) k = true) → gOK (apG cnd val g0 c0 i) P (c0 + fb_ct cnd i) ∧ gNE (apG cnd val g0 c0 i) (c0 + fb_ct cnd i)
  | 0, _ => ⟨h1, h2⟩
  | i + 1, hv => by
    obtain ⟨k1, k2⟩ := apG_ok h1 h2 i (fun j hj => hv j (by omega))
    cases hc : cnd i
    · rw [apG_n hc, ct_n hc]; exact ⟨k1, k2⟩
    · rw [apG_y hc, ct_y hc]
      obtain ⟨v1, v2⟩ := hv i (by omega) hc
      refine ⟨fun l hl k hk => ?_, fun l hl => ?_⟩
      · unfold vp_updL at hk
        by_cases e : l = c0 + fb_ct cnd i
        · rw [if_pos e] at hk; exact v1 k hk
        · rw [if_neg e] at hk; exact k1 l (by omega) k hk
      · unfold vp_updL
        by_cases e : l = c0 + fb_ct cnd i
        · rw [if_pos e]; exact v2
        · rw [if_neg e]; exact k2 l (by omega)
def cAb (g : Nat → Int64) (x : Nat) : Nat → Bool := fun l => !hs (g l) x
def cBb (g : Nat → Int64) (P L x : Nat) : Nat → Bool := fun y => hs (kpt g P L x) y && decide ((rst g P L x y &&& blw y) = 0)
def gAb (g : Nat → Int64) (P L x : Nat) : Nat → (Nat → Int64) := apG (cAb g x) (fun l => clo (g l) (kpt g P L x) 45) (fun _ => 0) 0
def nAb (g : Nat → Int64) (x i : Nat) : Nat := 0 + fb_ct (cAb g x) i
def gBb (g : Nat → Int64) (P L x : Nat) : Nat → (Nat → Int64) := apG (cBb g P L x) (fun y => clo (rst g P L x y) (kpt g P L x) 45) (gAb g P L x L) (nAb g x L)
def nBb (g : Nat → Int64) (P L x y : Nat) : Nat := nAb g x L + fb_ct (cBb g P L x) y
theorem nBb_le {g : Nat → Int64} {P L x : Nat} : nBb g P L x P ≤ L + P := by
  unfold nBb nAb
  have h1 := fb_ct_le (cAb g x) L
  have h2 := fb_ct_le (cBb g P L x) P
  omega
theorem kpt_45 {g : Nat → Int64} {P L x : Nat} (hP : P ≤ 45) : ∀ k, 45 ≤ k → hs (kpt g P L x) k = false := fun k hk => bool_ff (fun z => by
  have := ((hs_kpt hP).mp z).1
  omega)
theorem pop_kpt {g : Nat → Int64} {P L x : Nat} (hP : P ≤ 45) : pop (kpt g P L x) ≤ 45 := by
  rw [pop_45 (kpt_45 hP)]; exact fb_ct_le _ _
theorem spn_cong {N N' : Nat → Int64} {P x y : Nat} (h : ∀ p, p < P → N p = N' p) (hx : x < P) (hy : y < P) : spn N P x y = spn N' P x y := by
  unfold spn
  rw [h x hx, h y hy, andF_cong _ _ h]
theorem s_makeAbout {g near sets : Nat → Int64} {P L x : Nat} (hP : P ≤ 45) (hL : L ≤ 45) (hx : x < P) (hn : ∀ p, p < P → near p = nrs g L p) (hs' : ∀ l, l < L → sets l = g l) {z0 z1 z2 z3 z4 : Int32} {nr st th : Nat → Int64} {Q : Int32 → QW} (h1 : nBb g P L x P ≤ 45 → ∀ nr st th, okW (pop (kpt g P L x)) (nBb g P L x P) (gBb g P L x P) (nI (pop (kpt g P L x))) (nI (nBb g P L x P)) nr st th → Q 1 1 3 0 (nI (pop (kpt g P L x))) (nI (nBb g P L x P)) nr st th) (h0 : 45 < nBb g P L x P → ∀ lc nr st th, Q 0 1 3 0 (nI (pop (kpt g P L x))) lc nr st th) : w_X1_makeAbout (nI x) (nI P) (nI L) near sets z0 z1 z2 z3 z4 nr st th Q := by
  have hK := pop_kpt (g := g) (L := L) (x := x) hP
  refine s_below (by omega) ⟨in45 (by omega), ?_⟩
  rw [cl45 (by omega), hn x hx, show (blw P &&& (nrs g L x ^^^ (-1))) = kpt g P L x from rfl]
  refine s_bitCount (s_begin ?_)
  generalize hK' : kpt g P L x = K at *
  have mono : ∀ y, y ≤ P → nBb g P L x y ≤ nBb g P L x P := fun y hy => by
    unfold nBb
    have := fb_ct_mono (cBb g P L x) hy
    omega
  -- the spans
  have keyB : ∀ m y nr st th, m + y = P → okW (pop K) (nBb g P L x y) (gBb g P L x y) (nI (pop K)) (nI (nBb g P L x y)) nr st th → nBb g P L x y ≤ 45 → ∃ n, w_X1_makeAbout_84 (nI x) K (nI P) (nI L) near sets 1 3 0 (nI (pop K)) Q n (nI y) (nI (nBb g P L x y)) nr st th := by
    intro m
    induction m with
    | zero =>
      intro y nr st th hy ok hc
      have : y = P := by omega
      subst this
      exact ⟨1, pk_le y y (fun _ => ⟨Or.inr rfl, h1 hc _ _ _ ok⟩) (fun c => by omega)⟩
    | succ m ih =>
      intro y nr st th hy ok hc
      have sp : spn near P x y = spn (nrs g L) P x y := spn_cong hn hx (by omega)
      have pre : ∀ (K' : Int32 → Int32 → (Nat → Int64) → (Nat → Int64) → (Nat → Int64) → Prop), (cBb g P L x y = false → K' (nI (y + 1)) (nI (nBb g P L x y)) nr st th) → (cBb g P L x y = true → w_X5_add (clo (rst g P L x y) K 45) (nI (pop K)) (nI (nBb g P L x y)) nr st th (fun r u0 u1 u2 u3 => (¬ r = 0 → K' (nI (y + 1)) u0 u1 u2 u3) ∧ (r = 0 → (vz 0 ∧ Q 0 1 3 0 (nI (pop K)) u0 u1 u2 u3)))) → w_X1_makeAbout_84s (nI x) K (nI P) (nI L) near sets 1 3 0 (nI (pop K)) Q K' (nI y) (nI (nBb g P L x y)) nr st th := by
        intro K' f t
        refine pk_le P y (fun c => by omega) (fun _ => s_has (by omega) (fun b => ⟨fun c => absurd c (by decide), fun _ => ?_⟩) (fun b => ⟨fun _ => ?_, fun c => absurd rfl c⟩))
        · refine s_spanSet hP hx (by omega) ?_
          rw [sp]
          refine s_below (by omega) ?_
          rw [lgc, show (spn (nrs g L) P x y &&& (vshl 1 (nI x) ^^^ (-1))) = rst g P L x y from rfl]
          refine ⟨fun c => ?_, fun c => s_renumbered ?_⟩
          · show K' (nI y + 1) _ _ _ _
            rw [nI_1]
            refine f ?_
            unfold cBb
            rw [hK', b, decide_eq_false c]; rfl
          · have ht := t (by
              unfold cBb
              rw [hK', b, decide_eq_true c]; rfl)
            rw [← nI_1] at ht
            exact ht
        · show K' (nI y + 1) _ _ _ _
          rw [nI_1]
          refine f ?_
          unfold cBb
          rw [hK', b]; rfl
      cases hcb : cBb g P L x y
      · have e1 : nBb g P L x (y + 1) = nBb g P L x y := ct_n hcb
        have e2 : gBb g P L x (y + 1) = gBb g P L x y := apG_n hcb
        obtain ⟨n, hN⟩ := ih (y + 1) nr st th (by omega) (by rw [e1, e2]; exact ok) (by omega)
        rw [e1] at hN
        exact ⟨n + 1, pre _ (fun _ => hN) (fun z => by rw [hcb] at z; cases z)⟩
      · have e1 : nBb g P L x (y + 1) = nBb g P L x y + 1 := ct_y hcb
        have e2 : gBb g P L x (y + 1) = vp_updL (gBb g P L x y) (nBb g P L x y) (clo (rst g P L x y) K 45) := by
          rw [← hK']; exact apG_y hcb
        by_cases hfull : nBb g P L x y = 45
        · have hm := mono (y + 1) (by omega)
          refine ⟨1, pre _ (fun z => by rw [hcb] at z; cases z) (fun _ => ?_)⟩
          rw [hfull]
          exact s_addFull ⟨fun c => absurd rfl c, fun _ => ⟨Or.inl rfl, h0 (by omega) _ _ _ _⟩⟩
        · have ok1 := okW_add ok (clo (rst g P L x y) K 45)
          obtain ⟨n, hN⟩ := ih (y + 1) _ _ _ (by omega) (by rw [e1, e2]; exact ok1) (by omega)
          rw [e1] at hN
          refine ⟨n + 1, pre _ (fun z => by rw [hcb] at z; cases z) (fun _ => s_add hK (by omega) ⟨fun _ => hN, fun c => absurd c (by decide)⟩)⟩
  have keyA : ∀ m i nr st th, m + i = L → okW (pop K) (nAb g x i) (gAb g P L x i) (nI (pop K)) (nI (nAb g x i)) nr st th → nAb g x i ≤ 45 → ∃ n, w_X1_makeAbout_32 (nI x) K (nI P) (nI L) near sets 1 3 0 (nI (pop K)) Q n (nI i) (nI (nAb g x i)) nr st th := by
    intro m
    induction m with
    | zero =>
      intro i nr st th hi ok hc
      have : i = L := by omega
      subst this
      refine ⟨1, pk_le i i (fun _ => ?_) (fun c => by omega)⟩
      exact keyB P 0 nr st th (by omega) ok hc
    | succ m ih =>
      intro i nr st th hi ok hc
      cases hcb : cAb g x i
      · have e1 : nAb g x (i + 1) = nAb g x i := ct_n hcb
        have e2 : gAb g P L x (i + 1) = gAb g P L x i := apG_n hcb
        have hb : hs (g i) x = true := by unfold cAb at hcb; simpa using hcb
        obtain ⟨n, hN⟩ := ih (i + 1) nr st th (by omega) (by rw [e1, e2]; exact ok) (by omega)
        rw [e1] at hN
        refine ⟨n + 1, pk_le L i (fun c => by omega) (fun _ => ⟨in45 (by omega), ?_⟩)⟩
        rw [cl45 (by omega), hs' i (by omega)]
        refine s_has (by omega) (fun _ => ⟨fun _ => ?_, fun c => absurd c (by decide)⟩) (fun b => by rw [hb] at b; cases b)
        show w_X1_makeAbout_32 _ _ _ _ _ _ _ _ _ _ Q n (nI i + 1) _ _ _ _
        rw [nI_1]; exact hN
      · have e1 : nAb g x (i + 1) = nAb g x i + 1 := ct_y hcb
        have e2 : gAb g P L x (i + 1) = vp_updL (gAb g P L x i) (nAb g x i) (clo (g i) K 45) := by
          rw [← hK']; exact apG_y hcb
        have hb : hs (g i) x = false := by unfold cAb at hcb; simpa using hcb
        have pre : ∀ (K' : Int32 → Int32 → (Nat → Int64) → (Nat → Int64) → (Nat → Int64) → Prop), w_X5_add (clo (g i) K 45) (nI (pop K)) (nI (nAb g x i)) nr st th (fun r u0 u1 u2 u3 => (¬ r = 0 → K' (nI (i + 1)) u0 u1 u2 u3) ∧ (r = 0 → (vz 0 ∧ Q 0 1 3 0 (nI (pop K)) u0 u1 u2 u3))) → w_X1_makeAbout_32s (nI x) K (nI P) (nI L) near sets 1 3 0 (nI (pop K)) Q K' (nI i) (nI (nAb g x i)) nr st th := by
          intro K' t
          refine pk_le L i (fun c => by omega) (fun _ => ⟨in45 (by omega), ?_⟩)
          rw [cl45 (by omega), hs' i (by omega)]
          refine s_has (by omega) (fun b => by rw [hb] at b; cases b) (fun _ => ⟨fun c => absurd rfl c, fun _ => ⟨in45 (by omega), ?_⟩⟩)
          rw [← nI_1] at t
          exact s_renumbered t
        have hnl : nAb g x i ≤ i := by unfold nAb; have := fb_ct_le (cAb g x) i; omega
        have ok1 := okW_add ok (clo (g i) K 45)
        obtain ⟨n, hN⟩ := ih (i + 1) _ _ _ (by omega) (by rw [e1, e2]; exact ok1) (by omega)
        rw [e1] at hN
        exact ⟨n + 1, pre _ (s_add hK (by omega) ⟨fun _ => hN, fun c => absurd c (by decide)⟩)⟩
  exact keyA L 0 _ _ _ (by omega) (okW_begin hK _ _ _ _) (Nat.zero_le _)
/-- what is made about a point of a right world is a world -/
theorem about_ok {g : Nat → Int64} {P L x : Nat} (h : rightW g P L) (hx : x < P) (hc : nBb g P L x P ≤ 45) {kd tg : Int32} : AVok (pop (kpt g P L x), nBb g P L x P, kd, tg, gBb g P L x P) ∧ pop (kpt g P L x) ≠ 0 := by
  have hP := h.1
  have h45 := kpt_45 (g := g) (L := L) (x := x) hP
  have pk : pop (kpt g P L x) = fb_ct (hs (kpt g P L x)) 45 := pop_45 h45
  have val : ∀ s : Int64, ∀ k, hs (clo s (kpt g P L x) 45) k = true → k < pop (kpt g P L x) := fun s k hk => by
    rw [pk]; exact clo_in 45 (by omega) hk
  have ne : ∀ s : Int64, (∃ k, hs s k = true ∧ hs (kpt g P L x) k = true) → ∃ k, hs (clo s (kpt g P L x) 45) k = true := fun s ⟨k, k1, k2⟩ => by
    have hk45 : k < 45 := Classical.byContradiction fun z => by
      have := h45 k (by omega)
      rw [k2] at this; cases this
    exact ⟨_, clo_yes k2 k1 45 (by omega) hk45⟩
  have hA := apG_ok (cnd := cAb g x) (val := fun l => clo (g l) (kpt g P L x) 45) (g0 := fun _ => 0) (c0 := 0) (P := pop (kpt g P L x)) (fun l hl => absurd hl (Nat.not_lt_zero _)) (fun l hl => absurd hl (Nat.not_lt_zero _)) L (fun l hl hcl => ⟨val _, ne _ (by
    have hb : hs (g l) x = false := by unfold cAb at hcl; simpa using hcl
    obtain ⟨z, z1, z2, z3⟩ := far_on h hx hl hb
    exact ⟨z, z1, (hs_kpt hP).mpr ⟨z2, z3⟩⟩)⟩)
  have hB := apG_ok (cnd := cBb g P L x) (val := fun y => clo (rst g P L x y) (kpt g P L x) 45) (g0 := gAb g P L x L) (c0 := nAb g x L) (P := pop (kpt g P L x)) hA.1 hA.2 P (fun y hy hcl => ⟨val _, ne _ (by
    unfold cBb at hcl
    rw [Bool.and_eq_true] at hcl
    have hk := (hs_kpt hP).mp hcl.1
    refine ⟨y, (hs_rst hP hx).mpr ⟨spn_self h hy, fun e => ?_⟩, hcl.1⟩
    rw [e, (near_iff h hx).mpr (Or.inl rfl)] at hk
    cases hk.2)⟩)
  refine ⟨Or.inr ⟨pop_kpt hP, hc, hB.1, hB.2⟩, fun e => ?_⟩
  obtain ⟨z, z1, z2⟩ := far_ex h hx
  have : 0 < pop (kpt g P L x) := fb_ct_pos.mpr ⟨z, by omega, (hs_kpt hP).mpr ⟨z1, z2⟩⟩
  omega
