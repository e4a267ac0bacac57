def sp_form (W : AW) (x q : Int32) (Q : Int32 → AW → Prop) : Prop := (¬ (num x 6 ∧ ∃ q', isQ q' ∧ q = nI q') → Q (-1) W) ∧ ∀ j q', j < 6 → isQ q' → x = nI j → q = nI q' → Q (nI (Pq q')) (upW W j (Pq q', Pq q', 2, nI q', gF q'))
def sp_world (W : AW) (x p : Int32) (Q : Int32 → AW → Prop) : Prop := (¬ (num x 6 ∧ ∃ P, 2 ≤ P ∧ P ≤ 45 ∧ p = nI P) → Q (-1) W) ∧ ∀ j P, j < 6 → x = nI j → 2 ≤ P → P ≤ 45 → p = nI P → Q p (upW W j (P, 0, 0, 0, fun _ => 0))
def sp_grid (W : AW) (x xa xb : Int32) (Q : Int32 → AW → Prop) : Prop := (¬ (num x 6 ∧ (∃ a, 2 ≤ a ∧ a ≤ 6 ∧ xa = nI a) ∧ ∃ b, 2 ≤ b ∧ b ≤ 6 ∧ xb = nI b) → Q (-1) W) ∧ ∀ j a b, j < 6 → x = nI j → 2 ≤ a → a ≤ 6 → xa = nI a → 2 ≤ b → b ≤ 6 → xb = nI b → Q (nI (a * b)) (upW W j (a * b, a + b, 1, nI a, gGr a b))
abbrev QG : Type := Int32 → Int32 → Int32 → (Nat → Int32) → (Nat → Int32) → (Nat → Int32) → (Nat → Int64) → (Nat → Int32) → (Nat → Int64) → (Nat → Int32) → Prop
theorem first_e {q c : Nat} (h : isQ q) (hc : c < Rq q) {F : Int32 → Int32 → Int32 → Int32 → Prop} (k : F (nI (dq q c 0)) (nI (dq q c 1)) (nI (dq q c 2)) (nI (frs q c))) : ((nI (dq q c 0) ≤ 0 → ((nI (dq q c 1) ≤ 0 → ((nI (dq q c 2) ≤ 0 → F (nI (dq q c 0)) (nI (dq q c 1)) (nI (dq q c 2)) (nI (dq q c 3))) ∧ (¬ nI (dq q c 2) ≤ 0 → F (nI (dq q c 0)) (nI (dq q c 1)) (nI (dq q c 2)) (nI (dq q c 2))))) ∧ (¬ nI (dq q c 1) ≤ 0 → F (nI (dq q c 0)) (nI (dq q c 1)) (nI (dq q c 2)) (nI (dq q c 1))))) ∧ (¬ nI (dq q c 0) ≤ 0 → F (nI (dq q c 0)) (nI (dq q c 1)) (nI (dq q c 2)) (nI (dq q c 0)))) := by
  have hq := isQ_le h
  have l0 := dq_lt h hc (show 0 < 4 by omega)
  have l1 := dq_lt h hc (show 1 < 4 by omega)
  have l2 := dq_lt h hc (show 2 < 4 by omega)
  unfold frs at k
  refine pk_le (dq q c 0) 0 (fun c0 => pk_le (dq q c 1) 0 (fun c1 => pk_le (dq q c 2) 0 (fun c2 => ?_) (fun c2 => ?_)) (fun c1 => ?_)) (fun c0 => ?_)
  · rw [if_neg (by omega), if_neg (by omega), if_neg (by omega)] at k; exact k
  · rw [if_neg (by omega), if_neg (by omega), if_pos (by omega)] at k; exact k
  · rw [if_neg (by omega), if_pos (by omega)] at k; exact k
  · rw [if_pos (by omega)] at k; exact k
section
variable {W : AW} {ks lc ms pt : Nat → Int32} {ln : Nat → Int64}
theorem m_form (h : MW W ks lc ln ms pt) {x xq np nl : Int32} {lt : Nat → Int32} {nr : Nat → Int64} {Q : QG} (s : sp_form W x xq (fun r W' => ∀ np nl ks lt lc ln ms nr pt, MW W' ks lc ln ms pt → Q r np nl ks lt lc ln ms nr pt)) : w_X7_form x xq np nl ks lt lc ln ms nr pt Q := by
  refine m_isNumber (fun j hj e => ⟨fun c => absurd c (by decide), fun _ => ?_⟩) (fun hn => ⟨fun _ => s.1 (fun z => hn z.1) _ _ _ _ _ _ _ _ _ h, fun c => absurd rfl c⟩)
  refine m_in23 (fun q hq eq => ⟨fun _ => ?_, fun c => absurd c (by decide)⟩) (fun hn => ⟨fun c => absurd rfl c, fun _ => s.1 (fun z => hn z.2) _ _ _ _ _ _ _ _ _ h⟩)
  have q1 := s.2 j q hj hq e eq
  subst e; subst eq
  have hq2 := isQ_le hq
  have hR := Rq_le hq
  have hP := Pq_le hq
  -- the lines
  have lines : ∀ (lt nr), ltW q (Pq q) lt → ∃ n, w_X7_form_184 (nI j) (nI q) (nI (Pq q)) ks lt lc ln ms pt Q n 0 0 nr := by
    intro lt nr hlt
    have inner : ∀ a, a < Pq q → ∀ (K : Int32 → Int32 → (Nat → Int64) → Prop) (c' : Nat), (∀ nr, (∀ l, l < c' → nr l = gF q l) → K (nI (a + 1)) (nI c') nr) → ∀ m b c nr, m + b = Pq q → a < b → (∀ l, l < c → nr l = gF q l) → c ≤ Pq q → chI q a m b c = some c' → w_X7_form_197 (nI j) (nI q) (nI a) (nI (Pq q)) ks lt lc ln ms pt K Q (m + 1) (nI b) (nI c) nr := by
      intro a ha K c' hK m
      induction m with
      | zero =>
        intro b c nr hb hab w hc hch
        have : b = Pq q := by omega
        subst this
        rw [chI] at hch
        cases hch
        refine pk_le (Pq q) (Pq q) (fun _ => ?_) (fun z => by omega)
        rw [nI_1]; exact hK _ w
      | succ m ih =>
        intro b c nr hb hab w hc hch
        rw [chI] at hch
        have skip : cdQ q a b = false → w_X7_form_280 (nI j) (nI q) (nI a) (nI b) (nI (Pq q)) (nI c) ks lt lc ln ms nr pt K (w_X7_form_197 (nI j) (nI q) (nI a) (nI (Pq q)) ks lt lc ln ms pt K Q (m + 1)) Q := fun z => by
          rw [z, if_neg (by simp)] at hch
          show w_X7_form_197 _ _ _ _ _ _ _ _ _ _ K Q (m + 1) (nI b + 1) _ _
          rw [nI_1]
          exact ih (b + 1) c nr (by omega) (by omega) w hc hch
        refine pk_le (Pq q) b (fun z => by omega) (fun _ => m_isPerp hq ha (by omega) hlt (fun bt => ⟨fun z => absurd z (by decide), fun _ => m_lineOf hq ha (by omega) hlt ?_⟩) (fun bt => ⟨fun _ => skip ?_, fun z => absurd rfl z⟩))
        · have k7 := rg_at (rg_at (k7_q hq) ha) (show b < Pq q by omega)
          rw [bt, Bool.and_true, decide_eq_true hab] at k7
          have k7 : loC q a b (Pq q) 0 (2 ^ a ||| 2 ^ b) = (nlF q a &&& nlF q b) := by
            have k7' : (loC q a b (Pq q) 0 (2 ^ a ||| 2 ^ b) == (nlF q a &&& nlF q b)) = true := by simpa using k7
            exact eq_of_beq k7'
          rw [k7]
          have k8 := rg_at (rg_at (k8_q hq) ha) (show b < Pq q by omega)
          rw [Bool.and_eq_true, Bool.and_eq_true] at k8
          have haa := k8.1.2
          have hbb : (nlF q b).testBit a = true := by rw [← eq_of_beq k8.2]; exact bt
          -- the line's set
          have hset : ∀ k, hs (lN (nlF q a &&& nlF q b)) k = (nlF q a &&& nlF q b).testBit k := fun k => hs_lNn (and_lt (nl_lt hq ha)) (by omega)
          have ha1 : hs (lN (nlF q a &&& nlF q b)) a = true := by rw [hset, Nat.testBit_and, haa, hbb]; rfl
          have cd := cd_iff hq ha (show b < Pq q by omega)
          rw [lN_andd] at cd
          generalize hX : lN (nlF q a &&& nlF q b) = X at *
          rw [vshl_below (by omega), vshl_below (by omega), lgc, lgc]
          have z1 : (X &&& blw a) = 0 ↔ ∀ k, k < a → hs X k = false := by
            rw [zero_iff]
            constructor
            · intro z k hk
              have := z k (by omega)
              rw [hs_and, hs_blw (by omega)] at this
              simpa [hk] using this
            · intro z k _
              rw [hs_and, hs_blw (by omega)]
              by_cases c : k < a
              · rw [z k c]; rfl
              · simp [c]
          have z2 : ((X &&& blw b) &&& (vshl 1 (nI a) ^^^ (-1))) = 0 ↔ ∀ k, k < b → k ≠ a → hs X k = false := by
            rw [zero_iff]
            constructor
            · intro z k hk hne
              have := z k (by omega)
              rw [hs_and, hs_and, hs_blw (by omega), hs_not _ (by omega), hs_one (by omega)] at this
              simpa [hk, hne] using this
            · intro z k hk64
              rw [hs_and, hs_and, hs_blw (by omega), hs_not _ hk64, hs_one (by omega)]
              by_cases c : k < b
              · by_cases c2 : k = a
                · simp [c2]
                · rw [z k c c2]; rfl
              · simp [c]
          have z3 : (X &&& blw b) = vshl 1 (nI a) ↔ ∀ k, k < b → k ≠ a → hs X k = false := by
            constructor
            · intro e k hk hne
              have : hs (X &&& blw b) k = hs (vshl 1 (nI a)) k := by rw [e]
              rw [hs_and, hs_blw (by omega), hs_one (by omega)] at this
              simpa [hk, hne] using this
            · intro z
              refine hs_ext (fun k _ => ?_)
              rw [hs_and, hs_blw (by omega), hs_one (by omega)]
              by_cases c2 : k = a
              · subst c2
                rw [ha1]; simp [hab]
              · by_cases c : k < b
                · rw [z k c c2]; simp [c2]
                · simp [c, c2]
          rw [z1, z2]
          have cdt : cdQ q a b = true ↔ ∀ k, k < b → k ≠ a → hs X k = false := by
            unfold cdQ
            rw [bt, Bool.true_and, ← cd, z3]
          have no : ¬ (∀ k, k < b → k ≠ a → hs X k = false) → w_X7_form_266 (nI j) (nI q) (nI a) (nI b) X (nI (Pq q)) (nI c) ks lt lc ln ms nr pt K (w_X7_form_197 (nI j) (nI q) (nI a) (nI (Pq q)) ks lt lc ln ms pt K Q (m + 1)) Q := fun z => ⟨fun _ => skip (bool_ff (fun zz => z (cdt.mp zz))), fun zz => absurd rfl zz⟩
          refine ⟨fun d => no (fun z => d (fun k hk => z k (by omega) (by omega))), fun _ => ⟨fun d => no d, fun d => ⟨fun zz => absurd zz (by decide), fun _ => ?_⟩⟩⟩
          rw [cdt.mpr d, if_pos rfl] at hch
          by_cases hh : c < Pq q ∧ flQ q c = (nlF q a &&& nlF q b)
          · rw [if_pos hh] at hch
            refine m_add (by omega) ?_
            show w_X7_form_197 _ _ _ _ _ _ _ _ _ _ K Q (m + 1) (nI b + 1) _ _
            rw [nI_1 b]
            refine ih (b + 1) (c + 1) _ (by omega) (by omega) (fun l hl => ?_) (by omega) hch
            unfold vp_updL
            by_cases e : l = c
            · rw [if_pos e, e, ← hX, ← hh.2]; rfl
            · rw [if_neg e]; exact w l (by omega)
          · rw [if_neg hh] at hch; cases hch
        · unfold cdQ
          rw [bt]; rfl
    have outer : ∀ m a c nr, m + a = Pq q → (∀ l, l < c → nr l = gF q l) → c ≤ Pq q → chO q m a c = some (Pq q) → w_X7_form_184 (nI j) (nI q) (nI (Pq q)) ks lt lc ln ms pt Q (m + 1) (nI a) (nI c) nr := by
      intro m
      induction m with
      | zero =>
        intro a c nr ha w hc hch
        have : a = Pq q := by omega
        subst this
        rw [chO] at hch
        cases hch
        refine pk_le (Pq q) (Pq q) (fun _ => m_keep hj (by omega) ?_) (fun z => by omega)
        exact q1 _ _ _ _ _ _ _ _ _ (MW_keep h hj (form_ok hq) (by omega) w)
      | succ m ih =>
        intro a c nr ha w hc hch
        rw [chO] at hch
        cases hci : chI q a (Pq q - (a + 1)) (a + 1) c with
        | none => rw [hci] at hch; cases hch
        | some c' =>
          rw [hci] at hch
          have hcc := (chI_le _ _ _ _ hci).2 hc
          refine pk_le (Pq q) a (fun z => by omega) (fun _ => ⟨Pq q - (a + 1) + 1, ?_⟩)
          rw [nI_1]
          exact inner a (by omega) _ c' (fun nr w => ih (a + 1) c' nr (by omega) w hcc hch) (Pq q - (a + 1)) (a + 1) c nr (by omega) (by omega) w hc hci
    exact ⟨Pq q + 1, outer (Pq q) 0 0 nr (by omega) (fun l hl => absurd hl (Nat.not_lt_zero _)) (Nat.zero_le _) (eq_of_beq (k3_q hq))⟩
  -- the points
  have q2 : q * q ≤ 3 * 3 := Nat.mul_le_mul (by omega) (by omega)
  have q3 : q * q * q ≤ 9 * 3 := Nat.mul_le_mul (by omega) (by omega)
  have p2 : 0 < q * q := Nat.mul_pos (by omega) (by omega)
  have p3 : 0 < q * q * q := Nat.mul_pos p2 (by omega)
  have n1 : ¬ nI q = 0 := nI_ne0 (by omega) (by omega)
  have n2 : ¬ nI (q * q) = 0 := nI_ne0 p2 (by omega)
  have n3 : ¬ nI (q * q * q) = 0 := nI_ne0 p3 (by omega)
  have pts : ∀ m o p lt, m + o = Rq q → ckP q m o p = true → ltW q p lt → p ≤ Pq q → ∃ n, w_X7_form_30 (nI j) (nI q) 0 ks lc ln ms nr pt Q n (nI o) (nI p) lt := by
    intro m
    induction m with
    | zero =>
      intro o p lt ho hk hlt hp
      have : o = Rq q := by omega
      subst this
      rw [ckP] at hk
      have hpe := eq_of_beq hk
      subst hpe
      refine ⟨1, ?_⟩
      show w_X7_form_30s _ _ _ _ _ _ _ _ _ _ _ _ _ _
      unfold w_X7_form_30s
      simp only [pk_mul]
      exact pk_le (Rq q) (Rq q) (fun _ => lines lt nr hlt) (fun z => by omega)
    | succ m ih =>
      intro o p lt ho hk hlt hp
      rw [ckP] at hk
      have body : ∃ n, w_X7_form_99 (nI j) (nI q) (nI o) (nI (dq q o 0)) (nI (dq q o 1)) (nI (dq q o 2)) (nI (frs q o)) (nI p) 0 ks lt lc ln ms nr pt (w_X7_form_30 (nI j) (nI q) 0 ks lc ln ms nr pt Q n) Q := by
        have hfl : frs q o < q := by
          unfold frs
          have l0 := dq_lt hq (show o < Rq q by omega) (show 0 < 4 by omega)
          have l1 := dq_lt hq (show o < Rq q by omega) (show 1 < 4 by omega)
          have l2 := dq_lt hq (show o < Rq q by omega) (show 2 < 4 by omega)
          have l3 := dq_lt hq (show o < Rq q by omega) (show 3 < 4 by omega)
          split
          · exact l0
          · split
            · exact l1
            · split
              · exact l2
              · exact l3
        by_cases c : frs q o = 1
        · rw [if_pos c, Bool.and_eq_true, Bool.and_eq_true] at hk
          obtain ⟨hp2, hpc, hk⟩ := hk
          have hp2 := of_decide_eq_true hp2
          have hpc := eq_of_beq hpc
          obtain ⟨n, hn⟩ := ih (o + 1) (p + 1) (upd (upd (upd (upd lt (4 * p) (nI (dq q o 0))) (4 * p + 1) (nI (dq q o 1))) (4 * p + 2) (nI (dq q o 2))) (4 * p + 3) (nI (dq q o 3))) (by omega) hk (fun p' hp' i hi => by
            by_cases e : p' = p
            · subst e
              rw [hpc]
              by_cases i3 : i = 3
              · rw [i3, upd_same]
              · rw [upd_ne (by omega)]
                by_cases i2 : i = 2
                · rw [i2, upd_same]
                · rw [upd_ne (by omega)]
                  by_cases i1 : i = 1
                  · rw [i1, upd_same]
                  · rw [upd_ne (by omega)]
                    have i0 : i = 0 := by omega
                    rw [i0, Nat.add_zero, upd_same]
            · rw [upd_ne (by omega), upd_ne (by omega), upd_ne (by omega), upd_ne (by omega)]
              exact hlt p' (by omega) i hi) (by omega)
          refine ⟨n, fun z => absurd (by rw [c]; rfl) z, fun _ => ⟨lx_in0 (by omega), lx_in (i := 1) (by omega) (by omega), lx_in (i := 2) (by omega) (by omega), n1, lx_in (i := 3) (by omega) (by omega), ?_⟩⟩
          show w_X7_form_30 _ _ _ _ _ _ _ _ _ Q n (nI o + 1) (nI p + 1) _
          rw [vrem_nI (by omega) (by omega) (by omega), nI_1, nI_1, lx_c0 (by omega)]
          have c1 := lx_c (p := p) (i := 1) (by omega) (by omega)
          have c2 := lx_c (p := p) (i := 2) (by omega) (by omega)
          have c3 := lx_c (p := p) (i := 3) (by omega) (by omega)
          change ((4 : Int32) * nI p + 1).toNatClampNeg = _ at c1
          change ((4 : Int32) * nI p + 2).toNatClampNeg = _ at c2
          change ((4 : Int32) * nI p + 3).toNatClampNeg = _ at c3
          rw [c1, c2, c3]
          exact hn
        · rw [if_neg c] at hk
          obtain ⟨n, hn⟩ := ih (o + 1) p lt (by omega) hk hlt hp
          refine ⟨n, fun _ => ?_, fun z => absurd ((nI_eq (b := 1) (by omega) (by omega)).mp z) c⟩
          show w_X7_form_30 _ _ _ _ _ _ _ _ _ Q n (nI o + 1) (nI p) _
          rw [nI_1]; exact hn
      obtain ⟨n, hn⟩ := body
      refine ⟨n + 1, ?_⟩
      show w_X7_form_30s _ _ _ _ _ _ _ _ _ _ _ _ _ _
      unfold w_X7_form_30s
      simp only [pk_mul]
      refine pk_le (Rq q) o (fun z => by omega) (fun _ => ⟨n3, n2, n1, n1, n1, ?_⟩)
      have dv : ∀ d : Nat, 0 < d → d < 81 → nI o / nI d = nI (o / d) := fun d h2 h3 => pk_div (by omega) h2 (by omega)
      have rm : ∀ c, c ≤ 81 → vrem (nI c) (nI q) = nI (c % q) := fun c hc => vrem_nI (by omega) (by omega) (by omega)
      have dl : ∀ d : Nat, o / d ≤ 81 := fun d => by have := Nat.div_le_self o d; omega
      rw [dv _ p3 (by omega), dv _ p2 (by omega), dv q (by omega) (by omega), rm _ (dl (q * q)), rm _ (dl q), rm o (by omega)]
      rw [← dq0, ← dq1, ← dq2, ← dq3]
      have fe := first_e hq (show o < Rq q by omega) (F := fun a b c d => w_X7_form_99 (nI j) (nI q) (nI o) a b c d (nI p) 0 ks lt lc ln ms nr pt (w_X7_form_30 (nI j) (nI q) 0 ks lc ln ms nr pt Q n) Q) hn
      refine ⟨fun c0 => ⟨fun c1 => ⟨fun c2 => ⟨n1, ((fe.1 c0).1 c1).1 c2⟩, fun c2 => ((fe.1 c0).1 c1).2 c2⟩, fun c1 => (fe.1 c0).2 c1⟩, fun c0 => fe.2 c0⟩
  exact pts (Rq q - 1) 1 0 lt (by omega) (k1_q hq) (fun p hp => absurd hp (Nat.not_lt_zero _)) (Nat.zero_le _)
end
