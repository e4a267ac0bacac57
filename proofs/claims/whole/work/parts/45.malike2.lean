def aRel (P L : Nat) (g h : Nat → Int64) (s : MS) (goes : Nat → Int32) (tk : Nat → Nat) : Prop := ∀ p, p < ml s → goes p = nI (tk p) - 1 ∧ tk p ≤ P ∧ (p + 1 < ml s → 1 ≤ tk p ∧ mi s p = goes p) ∧ (p < P → ∀ k, hs (mC s p) k = true ↔ tk p ≤ k ∧ k < P ∧ cnd g h L (mi s) (mU s p) p k)
theorem ppM_rel {P L : Nat} {g h : Nat → Int64} {s : MS} {goes : Nat → Int32} {tk : Nat → Nat} (r : aRel P L g h s goes tk) : aRel P L g h (ppM s) goes tk := fun p hp => by
  have hp' : p < ml s - 1 := hp
  obtain ⟨a1, a2, a3, a4⟩ := r p (by omega)
  exact ⟨a1, a2, fun z => a3 (by have : p + 1 < ml s - 1 := z; omega), a4⟩
theorem cnd_cong {g h : Nat → Int64} {L p q : Nat} {im im' : Nat → Int32} {U : Int64} (e : ∀ k, k < p → im k = im' k) : cnd g h L im U p q ↔ cnd g h L im' U p q := by
  unfold cnd wnt
  rw [imgF_cong e]
theorem psM_rel {P L : Nat} {g h : Nat → Int64} (hP : P ≤ 45) {s : MS} (hi : aInv P s) {goes : Nat → Int32} {tk : Nat → Nat} (r : aRel P L g h s goes tk) (hl : 1 ≤ ml s) (h0 : mC s (ml s - 1) ≠ 0) {k : Nat} (hk : lst (mC s (ml s - 1)) = k) : aRel P L g h (psM g h P L s) (upd (upd goes (ml s - 1) (nI k)) (ml s) (-1)) (fun p => if p = ml s - 1 then k + 1 else if p = ml s then 0 else tk p) := by
  obtain ⟨i1, i2, i3⟩ := psM_inv (g := g) (h := h) (L := L) hP hi hl h0
  obtain ⟨k1, k2⟩ := lst_in h0
  rw [hk] at i2 k1 k2
  unfold psM
  rw [hk]
  generalize hC : vp_updL (mC s) (ml s - 1) (mC s (ml s - 1) &&& (vshl 1 (nI k) ^^^ (-1))) = C
  generalize hU : vp_updL (mU s) (ml s) (mU s (ml s - 1) ||| vshl 1 (nI k)) = U
  obtain ⟨e1, e2, e3, e4⟩ := opM_l (g := g) (h := h) (P := P) (L := L) (l := ml s + 1) (t := mt' s + 1) (f := mf s) (im := upd (mi s) (ml s - 1) (nI k)) (U := U) (C := C)
  intro p hp
  rw [e1] at hp
  rw [e1, e3, e4]
  have bt : ∀ q, (fun p => if p = ml s - 1 then k + 1 else if p = ml s then 0 else tk p) q = if q = ml s - 1 then k + 1 else if q = ml s then 0 else tk q := fun _ => rfl
  simp only [bt]
  by_cases c : p = ml s
  · subst c
    rw [upd_same, if_neg (by omega), if_pos rfl]
    refine ⟨by decide, Nat.zero_le _, fun z => absurd z (by omega), fun hlt q => ?_⟩
    unfold opM
    rw [if_neg (by omega)]
    show hs (vp_updL C (ml s + 1 - 1) _ (ml s)) q = true ↔ _
    rw [Nat.add_sub_cancel, vp_updL_same]
    unfold cdM
    rw [hs_cdA q P hP]
    exact ⟨fun ⟨z1, z2⟩ => ⟨Nat.zero_le _, z1, z2⟩, fun ⟨_, z1, z2⟩ => ⟨z1, z2⟩⟩
  · obtain ⟨b1, b2, b3, b4⟩ := r p (by omega)
    rw [upd_ne c, opM_C (by omega), ← hU, ← hC, upL_ne c]
    by_cases c2 : p = ml s - 1
    · subst c2
      rw [upd_same, upd_same, if_pos rfl, vp_updL_same]
      refine ⟨(nI_pred k).symm, by omega, fun _ => ⟨by omega, rfl⟩, fun hlt q => ?_⟩
      rw [hs_and, Bool.and_eq_true, b4 hlt q, cnd_cong (im' := mi s) (fun j hj => upd_ne (by omega))]
      have hkk := (b4 hlt k).mp k1
      by_cases hq : q < 64
      · rw [hs_not _ hq, hs_one (by omega)]
        constructor
        · rintro ⟨⟨z1, z2, z3⟩, z5⟩
          have hne' : q ≠ k := by simpa using z5
          have hge : ¬ q < k := fun z => by
            have := k2 q z
            rw [(b4 hlt q).mpr ⟨z1, z2, z3⟩] at this; cases this
          exact ⟨by omega, z2, z3⟩
        · rintro ⟨z1, z2, z3⟩
          refine ⟨⟨by omega, z2, z3⟩, ?_⟩
          have : q ≠ k := by omega
          simp [this]
      · constructor
        · rintro ⟨⟨-, z2, -⟩, -⟩; omega
        · rintro ⟨-, z2, -⟩; omega
    · rw [upd_ne c2, upd_ne c2, upL_ne c2, if_neg c2, if_neg c]
      refine ⟨b1, b2, fun _ => b3 (by omega), fun hlt q => (b4 hlt q).trans ?_⟩
      rw [cnd_cong (im' := upd (mi s) (ml s - 1) (nI k)) (fun j hj => (upd_ne (by omega)).symm)]
section
variable {P L i j n : Nat} {g h : Nat → Int64} {deg odeg : Nat → Int32} {nr onr : Nat → Int64} {fd : Int32} {fs sn lc pt : Nat → Int32} {ln : Nat → Int64}
abbrev QL : Type := Int32 → Int32 → Int32 → (Nat → Int32) → (Nat → Int32) → (Nat → Int32) → (Nat → Int64) → (Nat → Int32) → (Nat → Int64) → (Nat → Int32) → Prop
theorem m_alikeLoop (hi : i < 6) (hj : j < 6) (ha : alP P L g h deg odeg nr onr) (hp : pt i = nI P) (hl : lc i = nI L) (hg : ∀ l, l < L → mg ln i l = g l) (hh : ∀ l, l < L → mg ln j l = h l) (hn : n ≤ 100000) {Q : QL} : ∀ (f : Nat) (s : MS), aInv P s → mt' s ≤ n → 2 * (n - mt' s) + ml s < f → (mf s = true → ml s = P + 1) → (ml s = P + 1 → mf s = fit g h P L (mi s)) → ∀ (goes : Nat → Int32) (tk : Nat → Nat), aRel P L g h s goes tk → ((mkr g h P L n f s).1 = true → ∀ goes, Q (-6) fd (nI (mkr g h P L n f s).2.1) deg fs goes nr odeg onr sn) → ((mkr g h P L n f s).1 = false → (mkr g h P L n f s).2.2.1 = false → ∀ goes, Q 0 fd (nI (mkr g h P L n f s).2.1) deg fs goes nr odeg onr sn) → ((mkr g h P L n f s).1 = false → (mkr g h P L n f s).2.2.1 = true → ∀ goes sn, (∀ p, p < P → sn p = (mkr g h P L n f s).2.2.2 p) → (∀ p, P ≤ p → p < 45 → sn p = -9) → Q 1 fd (nI (mkr g h P L n f s).2.1) deg fs goes nr odeg onr sn) → ∃ m, w_X7_alike_183 (nI i) (nI j) (nI n) (nI P) fd deg fs lc ln nr odeg onr pt sn Q m (nI (ml s) - 1) (nI (mt' s)) goes
  | 0, s, _, _, h, _, _ => absurd h (Nat.not_lt_zero _)
  | f + 1, s, hinv, ht, hm, hf1, hf2 => by
    intro goes tk hr q6 q0 q1
    have ih := m_alikeLoop hi hj ha hp hl hg hh hn (Q := Q) f
    have hP := ha.1
    have hl46 := hinv.1
    obtain ⟨n1, n2, n3, n4⟩ := hinv
    by_cases h0 : ml s = 0
    · rw [mkr, if_pos h0] at q0
      refine ⟨1, ⟨fun _ => q0 rfl (bool_ff (fun z => by have := hf1 z; omega)) _, fun c => absurd ?_ c⟩⟩
      rw [h0]; decide
    have e0 : nI (ml s) - 1 = nI (ml s - 1) := nI_sub1 (by omega)
    have emin : nI (ml s - 1) + -1 = nI (ml s - 1) - 1 := (Int32.sub_eq_add_neg _ _).symm
    rw [mkr, if_neg h0] at q6 q0 q1
    rw [e0]
    by_cases hlast : ml s = P + 1
    · -- all are sent
      have hfit := hf2 hlast
      have ego : ∀ k, k < P → goes k = mi s k := fun k hk => ((hr k (by omega)).2.2.1 (by omega)).2.symm
      have hC0 : mC s (ml s - 1) = 0 := (n4 (ml s - 1) (by omega)).2.2 (by omega)
      by_cases hff : mf s = true
      · rw [if_pos hff] at q1
        have q1 := q1 rfl hff
        refine ⟨1, ⟨fun c => absurd c (nI_pos (by omega)), fun _ => ⟨fun c => absurd (by rw [hlast, Nat.add_sub_cancel]) c, fun _ => m_isSent hi hj hP ha.2.1 hp hl hg hh ego ?_⟩⟩⟩
        rw [← hfit, hff]
        refine ⟨fun c => absurd c (by decide), fun _ => ?_⟩
        refine pk_loop (fun n1 k (r : Nat → Int32) => w_X7_alike_207 (nI P) fd (nI (mt' s)) deg fs goes lc ln nr odeg onr pt Q n1 (nI k) r) (fun k r => ∀ p, p < k → (p < P → r p = mi s p) ∧ (P ≤ p → r p = -9)) 45 0 sn (by omega) (fun p hp => absurd hp (Nat.not_lt_zero _)) (fun n1 r hr' => ?_) (fun n1 k r hk hr' ihk => ?_)
        · exact pk_le 45 45 (fun _ => q1 _ _ (fun p hp => (hr' p (by omega)).1 hp) (fun p h1 h2 => (hr' p h2).2 h1)) (fun c => by omega)
        · refine pk_le 45 k (fun c => by omega) (fun _ => pk_le P k (fun c => ⟨in45 (by omega), ?_⟩) (fun c => ⟨in46 (by omega), in45 (by omega), ?_⟩))
          · rw [cl45 (by omega), nI_1]
            refine ihk _ (fun p hp => ?_)
            by_cases e : p = k
            · rw [e, upd_same]; exact ⟨fun z => by omega, fun _ => rfl⟩
            · rw [upd_ne e]; exact hr' p (by omega)
          · rw [cl45 (by omega), nI_1]
            refine ihk _ (fun p hp => ?_)
            by_cases e : p = k
            · rw [e, upd_same]; exact ⟨fun _ => ego k c, fun z => by omega⟩
            · rw [upd_ne e]; exact hr' p (by omega)
      · have hff := bool_ff hff
        rw [if_neg (by rw [hff]; simp), if_pos hC0] at q6 q0 q1
        obtain ⟨m, hm'⟩ := ih (ppM s) (ppM_inv ⟨n1, n2, n3, n4⟩) ht (by show 2 * (n - mt' s) + (ml s - 1) < f; omega) (fun z => by
          have : mf s = true := z
          rw [hff] at this; cases this) (fun z => by
          have : ml s - 1 = P + 1 := z
          omega) goes tk (ppM_rel hr) q6 q0 q1
        refine ⟨m + 1, ⟨fun c => absurd c (nI_pos (by omega)), fun _ => ⟨fun c => absurd (by rw [hlast, Nat.add_sub_cancel]) c, fun _ => m_isSent hi hj hP ha.2.1 hp hl hg hh ego ?_⟩⟩⟩
        rw [← hfit, hff]
        refine ⟨fun _ => ?_, fun c => absurd rfl c⟩
        rw [emin]
        exact hm'
    · -- one more to send
      have hff : mf s = false := bool_ff (fun z => hlast (hf1 z))
      rw [if_neg (by rw [hff]; simp)] at q6 q0 q1
      have hlP : ml s - 1 < P := by omega
      obtain ⟨a1, a2, a3, a4⟩ := hr (ml s - 1) (by omega)
      have a4 := a4 hlP
      obtain ⟨b1, b2, b3⟩ := n4 (ml s - 1) (by omega)
      have him : ∀ k, k < ml s - 1 → num (mi s k) P := fun k hk => n2 k (by omega)
      have hinj : ∀ k k', k < k' → k' < ml s - 1 → mi s k ≠ mi s k' := fun k k' h1 h2 => n3 k k' h1 (by omega)
      have hgo : ∀ k, k < ml s - 1 → goes k = mi s k := fun k hk => ((hr k (by omega)).2.2.1 (by omega)).2.symm
      have pre : ∀ (K : Int32 → Int32 → (Nat → Int32) → Prop) (z : Nat), z ≤ P → tk (ml s - 1) ≤ z → (∀ k, tk (ml s - 1) ≤ k → k < z → hs (mC s (ml s - 1)) k = false) → (z = P ∨ hs (mC s (ml s - 1)) z = true) → w_X7_alike_289 (nI i) (nI j) (nI n) (nI P) (nI (ml s - 1)) (nI z) fd (nI (mt' s)) deg fs goes lc ln nr odeg onr pt sn K Q → w_X7_alike_183s (nI i) (nI j) (nI n) (nI P) fd deg fs lc ln nr odeg onr pt sn Q K (nI (ml s - 1)) (nI (mt' s)) goes := by
        intro K z hz htz hno hyes hq
        refine ⟨fun c => absurd c (nI_pos (by omega)), fun _ => ⟨fun _ => ⟨in46 (by omega), ?_⟩, fun c => absurd ((nI_eq (by omega) (by omega)).mp c) (by omega)⟩⟩
        rw [cl45 (by omega), a1, Int32.sub_add_cancel]
        refine lpq (fun n1 k => w_X7_alike_265 (nI i) (nI j) (nI n) (nI P) (nI (ml s - 1)) fd (nI (mt' s)) deg fs goes lc ln nr odeg onr pt sn K Q n1 (nI k)) z (tk (ml s - 1)) htz (fun n1 => ?_) (fun n1 k h1 h2 ihk => ?_)
        · refine pk_le P z (fun _ => hq) (fun c => ?_)
          have hcz : hs (mC s (ml s - 1)) z = true := by
            rcases hyes with hy | hy
            · omega
            · exact hy
          obtain ⟨-, c2, c3⟩ := (a4 z).mp hcz
          exact m_maySend ha hlP c2 him hinj b1 hgo (fun _ => ⟨fun _ => hq, fun d => absurd d (by decide)⟩) (fun d => absurd c3 d)
        · refine pk_le P k (fun c => by omega) (fun _ => ?_)
          have hck := hno k h1 h2
          refine m_maySend ha hlP (by omega) him hinj b1 hgo (fun d => ?_) (fun _ => ⟨fun d => absurd rfl d, fun _ => ?_⟩)
          · rw [(a4 k).mpr ⟨h1, by omega, d⟩] at hck; cases hck
          · rw [nI_1]; exact ihk
      by_cases c0 : mC s (ml s - 1) = 0
      · rw [if_pos c0] at q6 q0 q1
        obtain ⟨m, hm'⟩ := ih (ppM s) (ppM_inv ⟨n1, n2, n3, n4⟩) ht (by show 2 * (n - mt' s) + (ml s - 1) < f; omega) (fun z => by
          have : mf s = true := z
          rw [hff] at this; cases this) (fun z => by
          have : ml s - 1 = P + 1 := z
          omega) goes tk (ppM_rel hr) q6 q0 q1
        refine ⟨m + 1, pre _ P (Nat.le_refl _) a2 (fun k _ _ => by rw [c0]; exact hs_0 k) (Or.inl rfl) ⟨fun c => absurd rfl c, fun _ => ?_⟩⟩
        rw [emin]
        exact hm'
      · rw [if_neg c0] at q6 q0 q1
        obtain ⟨i1, i2, i3⟩ := psM_inv (g := g) (h := h) (L := L) hP ⟨n1, n2, n3, n4⟩ (by omega) c0
        obtain ⟨l1, l2⟩ := lst_in c0
        generalize hk : lst (mC s (ml s - 1)) = k at i2 l1 l2
        have htk := ((a4 k).mp l1).1
        by_cases c1 : mt' s = n
        · rw [if_pos c1] at q6
          refine ⟨1, pre _ k (by omega) htk (fun j _ hj => l2 j hj) (Or.inr l1) ⟨fun _ => ⟨fun c => absurd (by rw [c1]) c, fun _ => q6 rfl _⟩, fun c => absurd ((nI_eq (by omega) (by omega)).mp c) (by omega)⟩⟩
        · rw [if_neg c1] at q6 q0 q1
          obtain ⟨m1, m2⟩ := psM_l (g := g) (h := h) (P := P) (L := L) (s := s)
          have hr' := psM_rel hP ⟨n1, n2, n3, n4⟩ hr (by omega) c0 hk
          have hmf : (mf (psM g h P L s) = true → ml (psM g h P L s) = P + 1) ∧ (ml (psM g h P L s) = P + 1 → mf (psM g h P L s) = fit g h P L (mi (psM g h P L s))) := by
            rw [m1]
            unfold psM
            rw [opM_l.2.2.1]
            unfold opM
            by_cases ce : ml s + 1 - 1 = P
            · rw [if_pos ce]
              exact ⟨fun _ => by omega, fun _ => rfl⟩
            · rw [if_neg ce]
              refine ⟨fun z => ?_, fun z => absurd z (by omega)⟩
              have : mf s = true := z
              rw [hff] at this; cases this
          obtain ⟨m, hm'⟩ := ih (psM g h P L s) i1 (by omega) (by omega) hmf.1 hmf.2 _ _ hr' q6 q0 q1
          refine ⟨m + 1, pre _ k (by omega) htk (fun j _ hj => l2 j hj) (Or.inr l1) ⟨fun _ => ⟨fun _ => ⟨in46 (by omega), ?_⟩, fun c => absurd ((nI_eq (by omega) (by omega)).mp c) c1⟩, fun c => absurd ((nI_eq (by omega) (by omega)).mp c) (by omega)⟩⟩
          rw [nI_1, nI_1, show ml s - 1 + 1 = ml s by omega]
          refine ⟨in46 (by omega), ?_⟩
          rw [cl45 (by omega), cl45 (by omega)]
          rw [m1, m2, nI_pred] at hm'
          exact hm'
end
