/-! what each call must answer, over the abstract state; the reference's calls do -/
def num (x : Int32) (N : Nat) : Prop := ∃ j, j < N ∧ x = nI j
theorem num_1 {x : Int32} {N j k : Nat} (hN : N < 2 ^ 31) (hj : j < N) (hk : k < N) (ej : x = nI j) (ek : x = nI k) : j = k := (nI_eq (by omega) (by omega)).mp (ej.symm.trans ek)
def sub (x : Int64) (P : Nat) : Prop := ∀ k, P ≤ k → hs x k = false
abbrev QF : Type := Int32 → Int32 → (Nat → Int32) → Prop
/-- a world looked for -/
def lk (W : AW) (x fd : Int32) (fs : Nat → Int32) (Qb : QF) (K : Nat → Prop) : Prop := (¬ num x 6 → Qb (-1) fd fs) ∧ ∀ j, j < 6 → x = nI j → (vP (W j) = 0 → Qb (-3) 1 (fnd fs 1)) ∧ (vP (W j) ≠ 0 → K j)
def tv (v : AV) (k : Nat) : Int32 := if k = 0 then vK v else if k = 1 then nI (vP v) else if k = 2 then nI (vL v) else if k = 3 then ord (fun i => pop (vG v i)) (vL v) (vL v) else ord (fun i => pop (thr (vG v) (vL v) i)) (vP v) (vL v)
def sp_drop (W : AW) (x fd : Int32) (fs : Nat → Int32) (Q : Int32 → Int32 → (Nat → Int32) → AW → Prop) : Prop := lk W x fd fs (fun r fd fs => Q r fd fs W) (fun j => Q 1 fd fs (upW W j (0, 0, 0, 0, fun _ => 0)))
def sp_told (W : AW) (x wh fd : Int32) (fs : Nat → Int32) (Q : QF) : Prop := (¬ num wh 5 → Q (-1) fd fs) ∧ ∀ k, k < 5 → wh = nI k → lk W x fd fs Q (fun j => Q (tv (W j) k) fd fs)
def sp_mark (W : AW) (x kd fd : Int32) (fs : Nat → Int32) (Q : QF) : Prop := (¬ (∃ k, 1 ≤ k ∧ k ≤ 3 ∧ kd = nI k) → Q (-1) fd fs) ∧ ∀ k, 1 ≤ k → k ≤ 3 → kd = nI k → lk W x fd fs Q (fun j => (vK (W j) = kd → Q (if k = 3 then nI (pop (thr (vG (W j)) (vL (W j)) 0)) else vM (W j)) fd fs) ∧ (vK (W j) ≠ kd → Q (-3) 3 (fnd fs 3)))
abbrev QA : Type := Int32 → Int32 → Int64 → (Nat → Int32) → Prop
def sp_points (W : AW) (x l fd : Int32) (ask : Int64) (fs : Nat → Int32) (Q : QA) : Prop := lk W x fd fs (fun r fd fs => Q r fd ask fs) (fun j => (∀ i, i < vL (W j) → l = nI i → Q (nI (pop (vG (W j) i))) fd (vG (W j) i) fs) ∧ (¬ num l (vL (W j)) → Q (-3) 2 ask (fnd fs 2)))
def sp_lines (W : AW) (x p fd : Int32) (ask : Int64) (fs : Nat → Int32) (Q : QA) : Prop := lk W x fd fs (fun r fd fs => Q r fd ask fs) (fun j => (∀ i, i < vP (W j) → p = nI i → Q (nI (pop (thr (vG (W j)) (vL (W j)) i))) fd (thr (vG (W j)) (vL (W j)) i) fs) ∧ (¬ num p (vP (W j)) → Q (-3) 2 ask (fnd fs 2)))
noncomputable abbrev fl (v : AV) : Nat := flt (vG v) (vP v) (vL v)
def sp_fault (W : AW) (x fd : Int32) (ask : Int64) (fs : Nat → Int32) (Q : QA) : Prop := lk W x fd fs (fun r fd fs => Q r fd ask fs) (fun j => Q (nI (fl (W j) / 10000)) fd (if fl (W j) = 0 then ask else lN (fl (W j) % 10000)) fs)
def sp_mean (W : AW) (x fd : Int32) (fs : Nat → Int32) (Q : QF) : Prop := lk W x fd fs Q (fun j => (vL (W j) = 0 → Q (-3) 4 (fnd fs 4)) ∧ (vL (W j) ≠ 0 → Q (nI (fb_sm (fun l => pop (vG (W j) l)) (vL (W j)) / vL (W j))) fd fs))
abbrev prp (v : AV) (x : Int64) : Int64 := andF (nrs (vG v) (vL v)) x (blw (vP v)) (vP v)
def sp_perp (W : AW) (x : Int32) (s : Int64) (fd : Int32) (ask : Int64) (fs : Nat → Int32) (Q : QA) : Prop := lk W x fd fs (fun r fd fs => Q r fd ask fs) (fun j => (sub s (vP (W j)) → Q (nI (pop (prp (W j) s))) fd (prp (W j) s) fs) ∧ (¬ sub s (vP (W j)) → Q (-1) fd ask fs))
abbrev spv (v : AV) (x y : Nat) : Int64 := spn (nrs (vG v) (vL v)) (vP v) x y
def sp_span (W : AW) (x p q fd : Int32) (ask : Int64) (fs : Nat → Int32) (Q : QA) : Prop := lk W x fd fs (fun r fd fs => Q r fd ask fs) (fun j => (¬ (num p (vP (W j)) ∧ num q (vP (W j))) → Q (-3) 2 ask (fnd fs 2)) ∧ ∀ a b, a < vP (W j) → b < vP (W j) → p = nI a → q = nI b → (hs (nrs (vG (W j)) (vL (W j)) a) b = true → Q (-4) fd ask fs) ∧ (hs (nrs (vG (W j)) (vL (W j)) a) b = false → Q (nI (pop (spv (W j) a b))) fd (spv (W j) a b) fs))
abbrev ordP (v : AV) : Int32 := ord (fun i => pop (thr (vG v) (vL v) i)) (vP v) (vL v)
abbrev ordL (v : AV) : Int32 := ord (fun i => pop (vG v i)) (vL v) (vL v)
abbrev rgv (v : AV) (x : Nat) : Prop := reg (nrs (vG v) (vL v)) (vP v) x (ordP v + 1)
def sp_regular (W : AW) (x p fd : Int32) (fs : Nat → Int32) (Q : QF) : Prop := lk W x fd fs Q (fun j => (¬ num p (vP (W j)) → Q (-3) 2 (fnd fs 2)) ∧ ∀ a, a < vP (W j) → p = nI a → (ordP (W j) = -9 → Q (-4) fd fs) ∧ (ordP (W j) ≠ -9 → (rgv (W j) a → Q 1 fd fs) ∧ (¬ rgv (W j) a → Q 0 fd fs)))
def sp_centres (W : AW) (x p q s fd : Int32) (fs : Nat → Int32) (Q : QF) : Prop := lk W x fd fs Q (fun j => (¬ (num p (vP (W j)) ∧ num q (vP (W j)) ∧ num s (vP (W j))) → Q (-3) 2 (fnd fs 2)) ∧ ∀ a b c, a < vP (W j) → b < vP (W j) → c < vP (W j) → p = nI a → q = nI b → s = nI c → Q (nI (pop (nrs (vG (W j)) (vL (W j)) a &&& nrs (vG (W j)) (vL (W j)) b &&& nrs (vG (W j)) (vL (W j)) c))) fd fs)
def sp_meets (W : AW) (x : Int32) (s : Int64) (m fd : Int32) (fs : Nat → Int32) (Q : QF) : Prop := lk W x fd fs Q (fun j => (¬ sub s (vP (W j)) → Q (-1) fd fs) ∧ (sub s (vP (W j)) → (vL (W j) = 0 → Q (-3) 4 (fnd fs 4)) ∧ (vL (W j) ≠ 0 → Q (nI (if m = 0 then minF (fun i => pop (vG (W j) i &&& s)) 45 (vL (W j)) else maxF (fun i => pop (vG (W j) i &&& s)) 0 (vL (W j)))) fd fs)))
def sp_far (W : AW) (x p q fd : Int32) (fs : Nat → Int32) (Q : QF) : Prop := lk W x fd fs Q (fun j => (¬ (num p (vP (W j)) ∧ num q (vP (W j))) → Q (-3) 2 (fnd fs 2)) ∧ ∀ a b, a < vP (W j) → b < vP (W j) → p = nI a → q = nI b → (∀ k, k < vP (W j) → hs (rch (nrs (vG (W j)) (vL (W j))) (vP (W j)) a k) b = true → (∀ i, i < k → hs (rch (nrs (vG (W j)) (vL (W j))) (vP (W j)) a i) b = false) → Q (nI k) fd fs) ∧ ((∀ k, k < vP (W j) → hs (rch (nrs (vG (W j)) (vL (W j))) (vP (W j)) a k) b = false) → Q (-9) fd fs))
section
variable {W : AW} {ks lc ms pt : Nat → Int32} {ln : Nat → Int64}
theorem m_lk (h : MW W ks lc ln ms pt) {x fd : Int32} {fs : Nat → Int32} {Qb : QF} {K : Nat → Prop} (s : lk W x fd fs Qb K) {Q : Int32 → Int32 → (Nat → Int32) → Prop} (h1 : ∀ r fd' fs', (r = -1 ∨ r = -3) → Qb r fd' fs' → Q r fd' fs') (h3 : ∀ j, j < 6 → x = nI j → vP (W j) ≠ 0 → K j → Q 0 fd fs) : w_X7_looked x fd fs pt Q :=
  m_look h (fun hn => h1 _ _ _ (Or.inl rfl) (s.1 hn)) (fun j hj e z => h1 _ _ _ (Or.inr rfl) ((s.2 j hj e).1 z)) (fun j hj e z => h3 j hj e z ((s.2 j hj e).2 z))
/-- behind looked(): 'if (bar < 0) return bar' -/
theorem bar_no {r : Int32} {A B : Prop} (hr : r = -1 ∨ r = -3) (b : B) : (0 ≤ r → A) ∧ (¬ 0 ≤ r → B) := by
  rcases hr with rfl | rfl
  · exact ⟨fun c => absurd c (by decide), fun _ => b⟩
  · exact ⟨fun c => absurd c (by decide), fun _ => b⟩
theorem bar_yes {A B : Prop} (a : A) : ((0 : Int32) ≤ 0 → A) ∧ (¬ (0 : Int32) ≤ 0 → B) := ⟨fun _ => a, fun c => absurd (by decide) c⟩
theorem m_drop (h : MW W ks lc ln ms pt) {x fd : Int32} {fs : Nat → Int32} {Q : Int32 → Int32 → (Nat → Int32) → (Nat → Int32) → Prop} (s : sp_drop W x fd fs (fun r fd fs W' => ∀ pt, MW W' ks lc ln ms pt → Q r fd fs pt)) : w_X7_drop x fd fs pt Q := by
  refine m_lk h s (fun r fd' fs' hr q => bar_no hr (q _ h)) (fun j hj e z k => bar_yes ⟨by rw [e]; exact in6 hj, ?_⟩)
  subst e
  rw [cl45 (by omega)]
  refine k _ ⟨upW_ok h.1 (Or.inl rfl), fun i hi => ?_⟩
  unfold upW
  by_cases e : i = j
  · subst e
    rw [if_pos rfl, upd_same]
    exact ⟨rfl, fun z => absurd rfl z⟩
  · rw [if_neg e, upd_ne e]
    exact h.2 i hi
theorem m_inNum {x hi : Int32} {N : Nat} (hN : N < 2 ^ 31) (hhi : hi = nI N - 1) {Q : Int32 → Prop} (ht : ∀ j, j < N → x = nI j → Q 1) (hf : ¬ num x N → Q 0) : w_X7_in x 0 hi Q := m_inN hN hhi ht hf
theorem m_told (h : MW W ks lc ln ms pt) {x wh fd : Int32} {fs : Nat → Int32} {Q : QF} (s : sp_told W x wh fd fs Q) : w_X7_told x wh fd fs ks lc ln pt Q := by
  refine m_inNum (N := 5) (by decide) (by decide) (fun k hk e => ⟨fun _ => ?_, fun c => absurd c (by decide)⟩) (fun hn => ⟨fun c => absurd rfl c, fun _ => s.1 hn⟩)
  subst e
  refine m_lk h (s.2 k hk rfl) (fun r fd' fs' hr q => bar_no hr q) (fun j hj e z q => bar_yes ?_)
  subst e
  obtain ⟨a1, a2, a3, a4, a5, a6, a7, a8, a9, a10⟩ := MW_at h hj z
  unfold tv at q
  refine ⟨fun c0 => ⟨fun c1 => ⟨fun c2 => ⟨fun c3 => ?_, fun c3 => ?_⟩, fun c2 => ?_⟩, fun c1 => ?_⟩, fun c0 => ?_⟩
  · have k4 : k = 4 := by
      have k0 : k ≠ 0 := fun z => c0 (by rw [z]; rfl)
      have k1 : k ≠ 1 := fun z => c1 (by rw [z]; rfl)
      have k2 : k ≠ 2 := fun z => c2 (by rw [z]; rfl)
      have k3 : k ≠ 3 := fun z => c3 (by rw [z]; rfl)
      omega
    subst k4
    refine m_orderP hj a2 a1 a3 a5 a6 ?_
    rw [ord_cong (f' := fun i => pop (thr (vG (W j)) (vL (W j)) i)) (fun i hi => by rw [thr_cong i a9]) (Or.inl a1)]
    exact q
  · have k3 : k = 3 := (nI_eq (by omega) (by decide)).mp c3
    subst k3
    refine m_orderL hj a2 a3 a10 a6 ?_
    rw [ord_cong (f' := fun i => pop (vG (W j) i)) (fun i hi => by rw [a9 i hi]) (by omega)]
    exact q
  · have k2 : k = 2 := (nI_eq (by omega) (by decide)).mp c2
    subst k2
    refine ⟨in6 hj, ?_⟩
    rw [cl45 (by omega), a6]
    exact q
  · have k1 : k = 1 := (nI_eq (by omega) (by decide)).mp c1
    subst k1
    refine ⟨in6 hj, ?_⟩
    rw [cl45 (by omega), a5]
    exact q
  · have k0 : k = 0 := (nI_eq (by omega) (by decide)).mp c0
    subst k0
    refine ⟨in6 hj, ?_⟩
    rw [cl45 (by omega), a7]
    exact q
theorem m_in13 {x : Int32} {Q : Int32 → Prop} (ht : ∀ a, 1 ≤ a → a ≤ 3 → x = nI a → Q 1) (hf : (¬ ∃ a, 1 ≤ a ∧ a ≤ 3 ∧ x = nI a) → Q 0) : w_X7_in x 1 3 Q := by
  refine m_in (fun c d => ?_) (fun c => hf ?_)
  · have h0 : ¬ x < 0 := fun z => c (by
      rw [fa_lt] at z ⊢
      have e2 : (1 : Int32).toInt = 1 := by decide
      have e0 : (0 : Int32).toInt = 0 := by decide
      omega)
    obtain ⟨a, ha, rfl⟩ := nI_of h0
    have h1 : ¬ a < 1 := fun z => c ((nI_ltI ha (by decide)).mpr z)
    have h2 : ¬ 3 < a := fun z => d ((nI_ltI (by decide) ha).mpr z)
    exact ht a (by omega) (by omega) rfl
  · rintro ⟨a, h1, h2, rfl⟩
    rcases c with c | c
    · have := (nI_ltI (by omega) (by decide)).mp (show nI a < nI 1 from c); omega
    · have := (nI_ltI (by decide) (by omega)).mp (show nI 3 < nI a from c); omega
theorem m_mark (h : MW W ks lc ln ms pt) {x kd fd : Int32} {fs : Nat → Int32} {Q : QF} (s : sp_mark W x kd fd fs Q) : w_X7_mark x kd fd fs ks lc ln ms pt Q := by
  refine m_in13 (fun k hk1 hk3 e => ⟨fun _ => ?_, fun c => absurd c (by decide)⟩) (fun hn => ⟨fun c => absurd rfl c, fun _ => s.1 hn⟩)
  subst e
  refine m_lk h (s.2 k hk1 hk3 rfl) (fun r fd' fs' hr q => bar_no hr q) (fun j hj e z q => bar_yes ?_)
  subst e
  obtain ⟨a1, a2, a3, a4, a5, a6, a7, a8, a9, a10⟩ := MW_at h hj z
  refine ⟨in6 hj, ?_⟩
  rw [cl45 (by omega), a7]
  refine ⟨fun c => ?_, fun c => m_meets (k := 3) (by decide) (q.2 c)⟩
  have q1 := q.1 c
  refine ⟨fun c3 => ⟨in6 hj, ?_⟩, fun c3 => ?_⟩
  · have k3 : k ≠ 3 := fun z => c3 (by rw [z]; rfl)
    rw [if_neg k3] at q1
    rw [a8]
    exact q1
  · have k3 : k = 3 := (nI_eq (by omega) (by decide)).mp c3
    rw [if_pos k3] at q1
    refine m_through (p := 0) hj a3 (by omega) a6 ?_
    rw [thr_cong 0 a9]
    exact m_bits (not45 a3 (fun k => thr_in a3)) q1
end
