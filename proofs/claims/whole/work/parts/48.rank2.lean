def A0 (g : Nat → Int64) : MX := fun i c => if hs (g i) c then 1 else 0
def rkW (r : Nat) (v : AV) : Nat := rkA r (vL v) (vP v) (A0 (vG v)) 0 0
def sp_rank (W : AW) (x r fd : Int32) (fs : Nat → Int32) (Q : QF) : Prop := (¬ (∃ r', isR r' ∧ r = nI r') → Q (-1) fd fs) ∧ ∀ r', isR r' → r = nI r' → lk W x fd fs Q (fun j => Q (nI (rkW r' (W j))) fd fs)
theorem rkA_le (r n : Nat) : ∀ m A k p, n ≤ k → rkA r n m A k p = k
  | 0, _, _, _, _ => rfl
  | m + 1, A, k, p, h => by rw [rkA, if_pos h]
theorem s_rankLoop {r n P : Nat} (hr : isR r) (hn : n ≤ 45) (hP : P ≤ 45) {st : Nat → Int64} {Q : Int32 → (Nat → Int32) → Prop} : ∀ (m : Nat) (A : MX) (k p : Nat) (s : Nat → Int32), m + p = P → k ≤ n → Cr r n P A s → (∀ s, Q (nI (rkA r n m A k p)) s) → w_X3_rankOf_67 (nI r) (nI P) (nI n) st Q (m + 1) (nI k) (nI p) s
  | 0, A, k, p, s, h1, h2, h3, q => by
    have : p = P := by omega
    subst this
    exact pk_le p p (fun _ => q s) (fun c => by omega)
  | m + 1, A, k, p, s, h1, h2, h3, q => by
    rw [rkA] at q
    by_cases c0 : n ≤ k
    · rw [if_pos c0] at q
      exact pk_le P p (fun c => by omega) (fun _ => pk_le n k (fun _ => q s) (fun c => by omega))
    rw [if_neg c0] at q
    obtain ⟨f1, f2⟩ := fsR_le (A := A) (p := p) h2
    have r2 := isR_le hr
    by_cases c1 : fsR A p n k = n
    · rw [if_pos c1] at q
      have hN := s_rankLoop hr hn hP (st := st) (Q := Q) m A k (p + 1) s (by omega) h2 h3 q
      refine pk_le P p (fun c => by omega) (fun _ => pk_le n k (fun c => by omega) (fun _ => s_firstWith hn hP h3 r2.2 (by omega) h2 (pk_le n (fsR A p n k) (fun _ => ?_) (fun c => by omega))))
      show w_X3_rankOf_67 _ _ _ _ Q (m + 1) (nI k) (nI p + 1) s
      rw [nI_1]; exact hN
    · rw [if_neg c1] at q
      have hf : fsR A p n k < n := by omega
      have hfy := fsR_yes h2 hf
      refine pk_le P p (fun c => by omega) (fun _ => pk_le n k (fun c => by omega) (fun _ => s_firstWith hn hP h3 r2.2 (by omega) h2 (pk_le n (fsR A p n k) (fun c => by omega) (fun _ => s_swapRows hn hP h3 hf (by omega) (fun s h4 => s_clearBelow hr hn hP h4 (by omega) (by omega) ?_ (fun s h5 => ?_))))))
      · have : swR A (fsR A p n k) k k p = A (fsR A p n k) p := by
          unfold swR
          by_cases e : k = fsR A p n k
          · rw [if_pos e, ← e]
          · rw [if_neg e, if_pos rfl]
        rw [this]; exact hfy
      · have hN := s_rankLoop hr hn hP (st := st) (Q := Q) m _ (k + 1) (p + 1) s (by omega) (by omega) h5 q
        show w_X3_rankOf_67 _ _ _ _ Q (m + 1) (nI k + 1) (nI p + 1) s
        rw [nI_1, nI_1]; exact hN
theorem A0_lt {g : Nat → Int64} {i c r : Nat} (hr : isR r) : A0 g i c < r := by
  have := isR_le hr
  unfold A0
  split <;> omega
theorem s_rankOf {r n P : Nat} (hr : isR r) (hn : n ≤ 45) (hP : P ≤ 45) {g st : Nat → Int64} (hg : ∀ i, i < n → st i = g i) {s : Nat → Int32} {Q : Int32 → (Nat → Int32) → Prop} (q : ∀ s, Q (nI (rkA r n P (A0 g) 0 0)) s) : w_X3_rankOf (nI r) (nI P) (nI n) st s Q := by
  refine pk_loop (fun m i (s : Nat → Int32) => w_X3_rankOf_2 (nI r) (nI P) (nI n) st Q m (nI i) s) (fun i s => ∀ j, j < i → ∀ c, c < P → s (45 * j + c) = nI (A0 g j c)) n 0 s (Nat.zero_le _) (fun j hj => absurd hj (Nat.not_lt_zero _)) (fun m s hs' => ?_) (fun m i s hi hs' ih => ?_)
  · refine pk_le n n (fun _ => ⟨P + 1, ?_⟩) (fun c => by omega)
    exact s_rankLoop hr hn hP P (A0 g) 0 0 s (by omega) (Nat.zero_le _) (fun j hj c hc => ⟨hs' j hj c hc, A0_lt hr⟩) q
  · refine pk_le n i (fun c => by omega) (fun _ => ?_)
    refine pk_loop (fun m2 p (s : Nat → Int32) => w_X3_rankOf_13 (nI r) (nI i) (nI P) (nI n) st (w_X3_rankOf_2 (nI r) (nI P) (nI n) st Q m) Q m2 (nI p) s) (fun p s => (∀ j, j < i → ∀ c, c < P → s (45 * j + c) = nI (A0 g j c)) ∧ ∀ c, c < p → s (45 * i + c) = nI (A0 g i c)) P 0 s (Nat.zero_le _) ⟨hs', fun c hc => absurd hc (Nat.not_lt_zero _)⟩ (fun m2 s h2 => ?_) (fun m2 p s hp h2 ih2 => ?_)
    · refine pk_le P P (fun _ => ?_) (fun c => by omega)
      rw [nI_1]
      refine ih s (fun j hj c hc => ?_)
      by_cases e : j = i
      · rw [e]; exact h2.2 c hc
      · exact h2.1 j (by omega) c hc
    · refine pk_le P p (fun c => by omega) (fun _ => ⟨in45 (by omega), ?_⟩)
      rw [cl45 (by omega), hg i hi]
      have go : ∀ x : Int32, x = nI (A0 g i p) → w_X3_rankOf_49 (nI r) (nI i) (nI p) ((45 * nI i) + nI p) x (nI P) (nI n) st s (w_X3_rankOf_2 (nI r) (nI P) (nI n) st Q m) (w_X3_rankOf_13 (nI r) (nI i) (nI P) (nI n) st (w_X3_rankOf_2 (nI r) (nI P) (nI n) st Q m) Q m2) Q := fun x hx => by
        refine ⟨tx_in (by omega) (by omega), ?_⟩
        rw [tx_c (by omega) (by omega), nI_1, hx]
        refine ih2 _ ⟨fun j hj c hc => by rw [upd_ne (by omega)]; exact h2.1 j hj c hc, fun c hc => ?_⟩
        by_cases e : c = p
        · rw [e, upd_same]
        · rw [upd_ne (by omega)]; exact h2.2 c (by omega)
      refine s_has (by omega) (fun b => ⟨fun c => absurd c (by decide), fun _ => go 1 ?_⟩) (fun b => ⟨fun _ => go 0 ?_, fun c => absurd rfl c⟩)
      · unfold A0; rw [if_pos b]; rfl
      · unfold A0; rw [if_neg (by rw [b]; simp)]; rfl
/-! the reference's -/
def Rr (r n P : Nat) (A : MX) (u : Nat → Nat) (T : Nat → Int32) (p : Nat) : Prop := ∀ i, i < n → 1 ≤ u i ∧ u i < r ∧ ∀ c, p ≤ c → c < P → T (45 * i + c) = nI (u i * A i c % r) ∧ A i c < r
section
variable {r n P : Nat}
theorem m_swap {f k : Nat} (hf : f < 45) (hk : k < 45) {T : Nat → Int32} {Q : (Nat → Int32) → Prop} (q : ∀ T', (∀ i, i < 45 → ∀ c, c < 45 → T' (45 * i + c) = T (45 * (if i = f then k else if i = k then f else i) + c)) → Q T') : w_X7_swap (nI f) (nI k) T Q := by
  refine pk_loop (fun m c (s : Nat → Int32) => w_X7_swap_2 (nI f) (nI k) Q m (nI c) s) (fun c0 s => ∀ i, i < 45 → ∀ c, c < 45 → s (45 * i + c) = if c < c0 then T (45 * (if i = f then k else if i = k then f else i) + c) else T (45 * i + c)) 45 0 T (by omega) (fun i hi c hc => by rw [if_neg (by omega)]) (fun m s hs' => ?_) (fun m c0 s hc0 hs' ih => ?_)
  · refine pk_le 45 45 (fun _ => q s (fun i hi c hc => ?_)) (fun c => by omega)
    have := hs' i hi c hc
    rw [if_pos hc] at this
    exact this
  · refine pk_le 45 c0 (fun c => by omega) (fun _ => ⟨tx_in (by omega) (by omega), tx_in (by omega) (by omega), tx_in (by omega) (by omega), tx_in (by omega) (by omega), ?_⟩)
    rw [tx_c (by omega) (by omega), tx_c (by omega) (by omega), nI_1]
    have hfc := hs' f hf c0 hc0
    have hkc := hs' k hk c0 hc0
    rw [if_neg (by omega)] at hfc hkc
    rw [hfc, hkc]
    refine ih _ (fun i hi c hc => ?_)
    by_cases ec : c = c0
    · subst ec
      rw [if_pos (by omega)]
      by_cases e2 : i = k
      · subst e2
        rw [upd_same]
        by_cases e1 : i = f
        · rw [if_pos e1, e1]
        · rw [if_neg e1, if_pos rfl]
      · rw [upd_ne (by omega)]
        by_cases e1 : i = f
        · subst e1
          rw [upd_same, if_pos rfl]
        · rw [upd_ne (by omega), if_neg e1, if_neg e2]
          have := hs' i hi c hc
          rw [if_neg (by omega)] at this
          exact this
    · rw [upd_ne (by omega), upd_ne (by omega), hs' i hi c hc]
      by_cases e1 : c < c0
      · rw [if_pos e1, if_pos (show c < c0 + 1 by omega)]
      · rw [if_neg e1, if_neg (by omega)]
theorem m_clear (hr : isR r) (hP : P ≤ 45) {i k p : Nat} (hi : i < 45) (hk : k < 45) (hik : i ≠ k) (hp : p < P) {T : Nat → Int32} {b a : Nat} (hb : T (45 * k + p) = nI b) (ha : T (45 * i + p) = nI a) (hbr : b < r) (har : a < r) {X Y : Nat → Nat} (hX : ∀ c, p ≤ c → c < P → T (45 * i + c) = nI (X c) ∧ X c < r) (hY : ∀ c, p ≤ c → c < P → T (45 * k + c) = nI (Y c) ∧ Y c < r) {Q : (Nat → Int32) → Prop} (q : ∀ T', (∀ j, j < 45 → j ≠ i → ∀ c, c < 45 → T' (45 * j + c) = T (45 * j + c)) → (∀ c, p ≤ c → c < P → T' (45 * i + c) = nI (if a = 0 then X c else (X c * b + (r - 1) * (Y c * a)) % r)) → Q T') : w_X7_clear (nI i) (nI k) (nI p) (nI r) T Q := by
  obtain ⟨r1, r2⟩ := isR_le hr
  refine ⟨tx_in hi (by omega), tx_in hk (by omega), ?_⟩
  rw [tx_c hi (by omega), tx_c hk (by omega), ha, hb]
  by_cases a0 : a = 0
  · subst a0
    refine ⟨1, pk_le 45 p (fun c => by omega) (fun _ => ⟨fun _ => q T (fun _ _ _ _ _ => rfl) (fun c h1 h2 => by rw [if_pos rfl]; exact (hX c h1 h2).1), fun c => absurd rfl c⟩)⟩
  · refine pk_loop (fun m c (s : Nat → Int32) => w_X7_clear_29 (nI i) (nI k) (nI r) (nI a) (nI b) Q m (nI c) s) (fun c0 s => p ≤ c0 ∧ (∀ j, j < 45 → j ≠ i → ∀ c, c < 45 → s (45 * j + c) = T (45 * j + c)) ∧ ∀ c, p ≤ c → c < P → s (45 * i + c) = nI (if c < c0 then (X c * b + (r - 1) * (Y c * a)) % r else X c)) 45 p T (by omega) ⟨Nat.le_refl _, fun _ _ _ _ _ => rfl, fun c h1 h2 => by rw [if_neg (by omega)]; exact (hX c h1 h2).1⟩ (fun m s hs' => ?_) (fun m c0 s hc0 hs' ih => ?_)
    · refine pk_le 45 45 (fun _ => q s hs'.2.1 (fun c h1 h2 => ?_)) (fun c => by omega)
      rw [if_neg a0]
      have := hs'.2.2 c h1 h2
      rw [if_pos (by omega)] at this
      exact this
    · obtain ⟨g0, g1, g2⟩ := hs'
      refine pk_le 45 c0 (fun c => by omega) (fun _ => ⟨fun d => absurd ((nI_eq (by omega) (by decide)).mp d) a0, fun _ => ⟨tx_in hi hc0, tx_in hk hc0, fun y hy => ⟨nI_ne0 (by omega) (by omega), nI_ne0 (by omega) (by omega), tx_in hi hc0, ?_⟩⟩⟩)
      rw [tx_c hi hc0, tx_c hk hc0] at hy
      rw [tx_c hi hc0, nI_1]
      refine ih _ ⟨by omega, fun j hj hne c hc => by rw [upd_ne (by omega)]; exact g1 j hj hne c hc, fun c h1 h2 => ?_⟩
      by_cases ec : c = c0
      · subst ec
        rw [upd_same, if_pos (by omega)]
        have e1 := g2 c h1 h2
        rw [if_neg (by omega)] at e1
        rw [e1, g1 k hk (fun z => hik z.symm) c hc0, (hY c h1 h2).1, pk_mul, pk_mul] at hy
        have l1 := (hX c h1 h2).2
        have l2 := (hY c h1 h2).2
        have m1 : X c * b ≤ 4 * 4 := Nat.mul_le_mul (by omega) (by omega)
        have m2 : Y c * a ≤ 4 * 4 := Nat.mul_le_mul (by omega) (by omega)
        rw [hy, mrem_r hr (by omega) (by omega)]
      · rw [upd_ne (by omega), g2 c h1 h2]
        by_cases e : c < c0
        · rw [if_pos e, if_pos (by omega)]
        · rw [if_neg e, if_neg (by omega)]
end
