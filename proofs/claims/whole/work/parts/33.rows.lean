/-! rows: what each call on them must answer, over an abstract state; the reference's calls do -/
/-- a row: 0 if missing, else one more than its places; its places -/
abbrev RV : Type := Nat × (Nat → Int32)
abbrev rN (v : RV) : Nat := v.1
abbrev rV (v : RV) : Nat → Int32 := v.2
abbrev AR : Type := Nat → RV
def ARok (R : AR) : Prop := ∀ j, j < 4 → rN (R j) ≤ 13
def upR (R : AR) (k : Nat) (v : RV) : AR := fun j => if j = k then v else R j
theorem upR_ok {R : AR} {k : Nat} {v : RV} (h : ARok R) (hv : rN v ≤ 13) : ARok (upR R k v) := fun j hj => by
  unfold upR
  by_cases e : j = k
  · rw [if_pos e]; exact hv
  · rw [if_neg e]; exact h j hj
def RR (v : RV) (s : Int32) (f : Nat → Int32) : Prop := (rN v = 0 → s = -9) ∧ ∀ n, rN v = n + 1 → s = nI n ∧ ∀ i, i < n → f i = rV v i
def mr (rows : Nat → Int32) (j : Nat) : Nat → Int32 := fun i => rows (12 * j + i)
def MR (R : AR) (rows sizes : Nat → Int32) : Prop := ARok R ∧ ∀ j, j < 4 → RR (R j) (sizes j) (mr rows j)
theorem rx_e {j l : Nat} : (12 : Int32) * nI j + nI l = nI (12 * j + l) := by
  rw [show (12 : Int32) = nI 12 from rfl, pk_mul, nI_add]
theorem rx_in {j l : Nat} (hj : j < 4) (hl : l < 12) : vp_in ((12 : Int32) * nI j + nI l) 48 := by
  rw [rx_e]; exact vp_in_nI (by omega) (by decide)
theorem rx_c {j l : Nat} (hj : j < 4) (hl : l < 12) (rows : Nat → Int32) : rows ((12 : Int32) * nI j + nI l).toNatClampNeg = mr rows j l := by
  rw [rx_e, nI_clamp (by omega)]; rfl
/-- a row looked for -/
def lkR (R : AR) (x fd : Int32) (fs : Nat → Int32) (Qb : QF) (K : Nat → Nat → Prop) : Prop := (¬ num x 4 → Qb (-1) fd fs) ∧ ∀ j, j < 4 → x = nI j → (rN (R j) = 0 → Qb (-3) 1 (fnd fs 1)) ∧ (∀ n, rN (R j) = n + 1 → K j n)
abbrev QR : Type := Int32 → Int32 → (Nat → Int32) → AR → Prop
def sp_row (R : AR) (x n fd : Int32) (fs : Nat → Int32) (Q : QR) : Prop := (¬ num x 4 → Q (-1) fd fs R) ∧ ∀ j, j < 4 → x = nI j → (12 < n → Q (-1) fd fs R) ∧ (n < 0 → Q (-3) 5 (fnd fs 5) R) ∧ ∀ k, k ≤ 12 → n = nI k → Q n fd fs (upR R j (k + 1, fun _ => 0))
def sp_lay (R : AR) (x i v fd : Int32) (fs : Nat → Int32) (Q : QR) : Prop := lkR R x fd fs (fun r fd fs => Q r fd fs R) (fun j n => (¬ num i n → Q (-3) 2 (fnd fs 2) R) ∧ ∀ k, k < n → i = nI k → Q (rV (R j) k + 1000) fd fs (upR R j (n + 1, upd (rV (R j)) k v)))
def sp_tear (R : AR) (x fd : Int32) (fs : Nat → Int32) (Q : QR) : Prop := lkR R x fd fs (fun r fd fs => Q r fd fs R) (fun j _ => Q 1 fd fs (upR R j (0, fun _ => 0)))
def fits (i k n : Int32) (na nb : Nat) : Prop := ∃ i' k' n', i = nI i' ∧ k = nI k' ∧ n = nI n' ∧ i' + n' ≤ na ∧ k' + n' ≤ nb
def cpV (f g : Nat → Int32) (i k n : Nat) : Nat → Int32 := fun p => if k ≤ p ∧ p < k + n then f (i + (p - k)) else g p
def sp_copy (R : AR) (x i t k n fd : Int32) (fs : Nat → Int32) (Q : QR) : Prop := (¬ (num x 4 ∧ num t 4) → Q (-1) fd fs R) ∧ ∀ a b, a < 4 → b < 4 → x = nI a → t = nI b → (n < 0 → Q (-3) 5 (fnd fs 5) R) ∧ (¬ n < 0 → (rN (R a) = 0 ∨ rN (R b) = 0 → Q (-3) 1 (fnd fs 1) R) ∧ ∀ na nb, rN (R a) = na + 1 → rN (R b) = nb + 1 → (¬ fits i k n na nb → Q (-3) 2 (fnd fs 2) R) ∧ ∀ i' k' n', i = nI i' → k = nI k' → n = nI n' → i' + n' ≤ na → k' + n' ≤ nb → Q 1 fd fs (upR R b (nb + 1, cpV (rV (R a)) (rV (R b)) i' k' n')))
section
variable {R : AR} {rows sizes : Nat → Int32}
theorem MR_0 (h : MR R rows sizes) {j : Nat} (hj : j < 4) : sizes j < 0 ↔ rN (R j) = 0 := by
  obtain ⟨h1, h2⟩ := h.2 j hj
  have hb := h.1 j hj
  by_cases c : rN (R j) = 0
  · rw [h1 c]
    exact ⟨fun _ => c, fun _ => by decide⟩
  · obtain ⟨n, hn⟩ : ∃ n, rN (R j) = n + 1 := ⟨rN (R j) - 1, by omega⟩
    rw [(h2 n hn).1]
    exact ⟨fun d => absurd d (nI_pos (by omega)), fun d => absurd d c⟩
theorem pl_iff (x : Int32) : 0 ≤ x ↔ ¬ x < 0 := by
  rw [fa_le, fa_lt]
  omega
theorem m_askedRow (h : MR R rows sizes) {x fd : Int32} {fs : Nat → Int32} {Qb : QF} {K : Nat → Nat → Prop} (s : lkR R x fd fs Qb K) {Q : Int32 → Int32 → (Nat → Int32) → Prop} (h1 : ∀ r fd' fs', (r = -1 ∨ r = -3) → Qb r fd' fs' → Q r fd' fs') (h3 : ∀ j n, j < 4 → x = nI j → rN (R j) = n + 1 → n ≤ 12 → K j n → Q 0 fd fs) : w_X7_askedRow x fd fs sizes Q := by
  refine m_isRow (fun j hj e => ⟨fun _ => ?_, fun c => absurd c (by decide)⟩) (fun hn => ⟨fun c => absurd rfl c, fun _ => h1 _ _ _ (Or.inl rfl) (s.1 hn)⟩)
  subst e
  refine ⟨in4 hj, ?_⟩
  rw [cl45 (by omega), pl_iff, MR_0 h hj]
  have hb := h.1 j hj
  refine ⟨fun c => ?_, fun c => m_meets (k := 1) (by decide) (h1 _ _ _ (Or.inr rfl) ((s.2 j hj rfl).1 (Classical.not_not.mp c)))⟩
  obtain ⟨n, hn⟩ : ∃ n, rN (R j) = n + 1 := ⟨rN (R j) - 1, by omega⟩
  exact h3 j n hj rfl hn (by omega) ((s.2 j hj rfl).2 n hn)
theorem MR_up (h : MR R rows sizes) {k : Nat} {v : RV} (hv : rN v ≤ 13) {rows' sizes' : Nat → Int32} (h1 : RR v (sizes' k) (mr rows' k)) (h2 : ∀ j, j < 4 → j ≠ k → sizes' j = sizes j ∧ ∀ i, i < 12 → mr rows' j i = mr rows j i) : MR (upR R k v) rows' sizes' := by
  refine ⟨upR_ok h.1 hv, fun j hj => ?_⟩
  unfold upR
  by_cases e : j = k
  · rw [if_pos e, e]; exact h1
  · rw [if_neg e]
    obtain ⟨a1, a2⟩ := h2 j hj e
    obtain ⟨b1, b2⟩ := h.2 j hj
    have hb := h.1 j hj
    refine ⟨fun z => a1.trans (b1 z), fun n z => ⟨a1.trans (b2 n z).1, fun i hi => (a2 i (by omega)).trans ((b2 n z).2 i hi)⟩⟩
theorem m_row (h : MR R rows sizes) {x n fd : Int32} {fs : Nat → Int32} {Q : Int32 → Int32 → (Nat → Int32) → (Nat → Int32) → (Nat → Int32) → Prop} (s : sp_row R x n fd fs (fun r fd fs R' => ∀ rows sizes, MR R' rows sizes → Q r fd fs rows sizes)) : w_X7_row x n fd fs rows sizes Q := by
  refine m_isRow (fun j hj e => ⟨fun c => absurd c (by decide), fun _ => ?_⟩) (fun hn => ⟨fun _ => s.1 hn _ _ h, fun c => absurd rfl c⟩)
  obtain ⟨s1, s2, s3⟩ := s.2 j hj e
  subst e
  refine ⟨fun c => ⟨fun d => ⟨in4 hj, ?_⟩, fun d => ?_⟩, fun c => ?_⟩
  · obtain ⟨k, hk, e⟩ := nI_of2 (M := 12) (n := 12) (by decide) ((pl_iff n).mp d) c
    subst e
    rw [cl45 (by omega)]
    have q := s3 k hk rfl
    refine pk_loop (fun n i (r : Nat → Int32) => w_X7_row_34 (nI j) (nI k) fd fs (upd sizes j (nI k)) Q n (nI i) r) (fun i r => (∀ p, p < i → mr r j p = 0) ∧ ∀ a, a < 4 → a ≠ j → ∀ p, p < 12 → mr r a p = mr rows a p) 12 0 rows (by omega) ⟨fun p hp => by omega, fun _ _ _ _ _ => rfl⟩ (fun n r hr => ?_) (fun n i r hi hr ih => ?_)
    · refine pk_le 12 12 (fun _ => q _ _ ?_) (fun c => by omega)
      refine MR_up h (by show k + 1 ≤ 13; omega) ⟨fun z => (by cases z), fun m hm => ?_⟩ (fun a ha hne => ⟨upd_ne hne, hr.2 a ha hne⟩)
      have : m = k := by
        have : k + 1 = m + 1 := hm
        omega
      subst this
      rw [upd_same]
      exact ⟨rfl, fun i hi => hr.1 i (by omega)⟩
    · refine pk_le 12 i (fun c => by omega) (fun _ => ⟨rx_in hj hi, ?_⟩)
      rw [rx_e, nI_clamp (by omega), nI_1]
      refine ih _ ⟨fun p hp => ?_, fun a ha hne p hp => ?_⟩
      · unfold mr
        by_cases e : p = i
        · rw [e]; exact upd_same _ _ _
        · rw [upd_ne (by omega)]; exact hr.1 p (by omega)
      · unfold mr
        rw [upd_ne (by omega)]
        exact hr.2 a ha hne p hp
  · exact m_meets (k := 5) (by decide) (s2 (by
      rw [pl_iff] at d
      exact Classical.not_not.mp d) _ _ h)
  · exact s1 (by
      rw [fa_le] at c
      rw [fa_lt]
      omega) _ _ h
theorem m_lay (h : MR R rows sizes) {x i v fd : Int32} {fs : Nat → Int32} {Q : Int32 → Int32 → (Nat → Int32) → (Nat → Int32) → Prop} (s : sp_lay R x i v fd fs (fun r fd fs R' => ∀ rows, MR R' rows sizes → Q r fd fs rows)) : w_X7_lay x i v fd fs rows sizes Q := by
  refine m_askedRow h s (fun r fd' fs' hr q => bar_no hr (q _ h)) (fun j n hj e hn hb q => bar_yes ?_)
  subst e
  obtain ⟨b1, b2⟩ := (h.2 j hj).2 n hn
  refine ⟨in4 hj, ?_⟩
  rw [cl45 (by omega), b1]
  refine m_inNum (N := n) (by omega) rfl (fun k hk e => ⟨fun _ => ?_, fun c => absurd c (by decide)⟩) (fun hn => ⟨fun c => absurd rfl c, fun _ => m_meets (k := 2) (by decide) (q.1 hn _ h)⟩)
  subst e
  refine ⟨rx_in hj (by omega), rx_in hj (by omega), ?_⟩
  rw [rx_c (l := k) hj (by omega) rows, b2 k hk, rx_e, nI_clamp (by omega)]
  refine q.2 k hk rfl _ (MR_up h (by show n + 1 ≤ 13; omega) ⟨fun z => (by cases z), fun m hm => ?_⟩ (fun a ha hne => ⟨rfl, fun p hp => by unfold mr; rw [upd_ne (by omega)]⟩))
  have : m = n := by
    have : n + 1 = m + 1 := hm
    omega
  subst this
  refine ⟨b1, fun p hp => ?_⟩
  unfold mr
  by_cases e : p = k
  · subst e
    rw [upd_same]
    exact (upd_same _ _ _).symm
  · rw [upd_ne (by omega)]
    show mr rows j p = upd (rV (R j)) k v p
    rw [upd_ne e]
    exact b2 p hp
theorem m_tear (h : MR R rows sizes) {x fd : Int32} {fs : Nat → Int32} {Q : Int32 → Int32 → (Nat → Int32) → (Nat → Int32) → Prop} (s : sp_tear R x fd fs (fun r fd fs R' => ∀ sizes, MR R' rows sizes → Q r fd fs sizes)) : w_X7_tear x fd fs sizes Q := by
  refine m_askedRow h s (fun r fd' fs' hr q => bar_no hr (q _ h)) (fun j n hj e hn hb q => bar_yes ?_)
  subst e
  refine ⟨in4 hj, ?_⟩
  rw [cl45 (by omega)]
  exact q _ (MR_up h (by show 0 ≤ 13; omega) ⟨fun _ => upd_same _ _ _, fun n z => by cases z⟩ (fun a ha hne => ⟨upd_ne hne, fun _ _ => rfl⟩))
theorem wide_le {a n m : Nat} (ha : a < 2 ^ 31) (hn : n < 2 ^ 31) (hm : m < 2 ^ 31) : lg_cmp ((nI a).toInt64 + (nI n).toInt64) (nI m).toInt64 ≤ 0 ↔ a + n ≤ m := by
  have e : ((nI a).toInt64 + (nI n).toInt64).toInt = ((a + n : Nat) : Int) := by
    rw [nI_l ha, nI_l hn, lN_add]
    exact lg_ofNat_toInt (by omega)
  have e2 : ((nI m).toInt64).toInt = (m : Int) := by rw [nI_l hm]; exact lN_toInt hm
  have g : (nI a).toInt64 + (nI n).toInt64 > (nI m).toInt64 ↔ m < a + n := by
    show (nI m).toInt64 < _ ↔ _
    rw [fa_lt64, e, e2]
    omega
  unfold lg_cmp
  by_cases c : (nI a).toInt64 + (nI n).toInt64 > (nI m).toInt64
  · rw [if_pos c]
    have := g.mp c
    exact ⟨fun d => absurd d (by decide), fun d => by omega⟩
  · rw [if_neg c]
    have : ¬ m < a + n := fun d => c (g.mpr d)
    refine ⟨fun _ => by omega, fun _ => ?_⟩
    split <;> decide
theorem lg_pos (x y : Int64) : 0 < lg_cmp x y ↔ ¬ lg_cmp x y ≤ 0 := by
  rw [fa_lt, fa_le]
  omega
theorem m_copy (h : MR R rows sizes) {x i t k n fd : Int32} {fs mv : Nat → Int32} {Q : Int32 → Int32 → (Nat → Int32) → (Nat → Int32) → (Nat → Int32) → Prop} (s : sp_copy R x i t k n fd fs (fun r fd fs R' => ∀ mv rows, MR R' rows sizes → Q r fd fs mv rows)) : w_X7_copy x i t k n fd fs mv rows sizes Q := by
  refine m_isRow (fun a ha ea => ⟨fun c => absurd c (by decide), fun _ => ?_⟩) (fun hn => ⟨fun _ => s.1 (fun z => hn z.1) _ _ h, fun c => absurd rfl c⟩)
  refine m_isRow (fun b hb eb => ⟨fun _ => ?_, fun c => absurd c (by decide)⟩) (fun hn => ⟨fun c => absurd rfl c, fun _ => s.1 (fun z => hn z.2) _ _ h⟩)
  obtain ⟨s1, s2⟩ := s.2 a b ha hb ea eb
  subst ea; subst eb
  rw [pl_iff]
  refine ⟨fun c => ⟨in4 ha, ?_⟩, fun c => m_meets (k := 5) (by decide) (s1 (Classical.not_not.mp c) _ _ h)⟩
  obtain ⟨s3, s4⟩ := s2 c
  obtain ⟨n', hn', rfl⟩ := nI_of c
  rw [cl45 (by omega), MR_0 h ha]
  refine ⟨fun d => m_meets (k := 1) (by decide) (s3 (Or.inl d) _ _ h), fun d => ⟨in4 hb, ?_⟩⟩
  rw [cl45 (by omega), pl_iff, MR_0 h hb]
  refine ⟨fun d2 => ?_, fun d2 => m_meets (k := 1) (by decide) (s3 (Or.inr (Classical.not_not.mp d2)) _ _ h)⟩
  have ba := h.1 a ha
  have bb := h.1 b hb
  obtain ⟨na, hna⟩ : ∃ n, rN (R a) = n + 1 := ⟨rN (R a) - 1, by omega⟩
  obtain ⟨nb, hnb⟩ : ∃ n, rN (R b) = n + 1 := ⟨rN (R b) - 1, by omega⟩
  obtain ⟨s5, s6⟩ := s4 na nb hna hnb
  obtain ⟨c1, c2⟩ := (h.2 a ha).2 na hna
  obtain ⟨e1, e2⟩ := (h.2 b hb).2 nb hnb
  have no : ¬ fits i k (nI n') na nb → w_X7_copy_95 fd fs mv rows sizes Q := fun z => m_meets (k := 2) (by decide) (s5 z _ _ h)
  have nn : ∀ {m : Nat}, m < 2 ^ 31 → nI n' = nI m → m = n' := fun hm e => ((nI_eq hn' hm).mp e).symm
  refine ⟨fun ci => no ?_, fun ci => ⟨fun ck => no ?_, fun ck => ⟨in4 ha, ?_⟩⟩⟩
  · rintro ⟨i', k', n2, rfl, -, f3, f4, f5⟩
    exact nI_pos (by omega) ci
  · rintro ⟨i', k', n2, -, rfl, f3, f4, f5⟩
    exact nI_pos (by omega) ck
  obtain ⟨i', hi', rfl⟩ := nI_of ci
  obtain ⟨k', hk', rfl⟩ := nI_of ck
  have nofit : ¬ (i' + n' ≤ na ∧ k' + n' ≤ nb) → ¬ fits (nI i') (nI k') (nI n') na nb := by
    rintro z ⟨i2, k2, n2, f1, f2, f3, f4, f5⟩
    have g1 := (nI_eq hi' (by omega)).mp f1
    have g2 := (nI_eq hk' (by omega)).mp f2
    have g3 := (nI_eq hn' (by omega)).mp f3
    subst g1; subst g2; subst g3
    exact z ⟨f4, f5⟩
  rw [c1, e1, lg_pos, wide_le hi' hn' (by omega), wide_le hk' hn' (by omega)]
  refine ⟨fun f => no (nofit (fun z => f z.1)), fun f => ⟨in4 hb, ⟨fun g => ?_, fun g => no (nofit (fun z => g z.2))⟩⟩⟩
  have f := Classical.not_not.mp f
  have q := s6 i' k' n' rfl rfl rfl f g
  have e3 : ∀ {u v w : Nat}, ((12 : Int32) * nI u + nI v) + nI w = nI (12 * u + (v + w)) := fun {u v w} => by rw [rx_e, nI_add, Nat.add_assoc]
  refine pk_loop (fun n p (r : Nat → Int32) => w_X7_copy_104 (nI a) (nI i') (nI b) (nI k') (nI n') fd fs rows sizes Q n (nI p) r) (fun p r => ∀ z, z < p → r z = rV (R a) (i' + z)) n' 0 mv (by omega) (fun z hz => by omega) (fun n1 r hr => ?_) (fun n1 p r hp hr ih => ?_)
  · refine pk_le n' n' (fun _ => ?_) (fun c => by omega)
    refine pk_loop (fun n p (r2 : Nat → Int32) => w_X7_copy_141 (nI b) (nI k') (nI n') fd fs r sizes Q n (nI p) r2) (fun p r2 => (∀ z, z < 12 → mr r2 b z = if k' ≤ z ∧ z < k' + p then r (z - k') else mr rows b z) ∧ ∀ j, j < 4 → j ≠ b → ∀ z, z < 12 → mr r2 j z = mr rows j z) n' 0 rows (by omega) ⟨fun z hz => by rw [if_neg (by omega)], fun _ _ _ _ _ => rfl⟩ (fun n1 r2 hr2 => ?_) (fun n1 p r2 hp hr2 ih => ?_)
    · refine pk_le n' n' (fun _ => q _ _ (MR_up h (by show nb + 1 ≤ 13; omega) ⟨fun z => (by cases z), fun m hm => ?_⟩ (fun j hj hne => ⟨rfl, hr2.2 j hj hne⟩))) (fun c => by omega)
      have : m = nb := by
        have : nb + 1 = m + 1 := hm
        omega
      subst this
      refine ⟨e1, fun z hz => ?_⟩
      rw [hr2.1 z (by omega)]
      show _ = cpV _ _ _ _ _ z
      unfold cpV
      by_cases w : k' ≤ z ∧ z < k' + n'
      · rw [if_pos w, if_pos w, hr _ (by omega)]
      · rw [if_neg w, if_neg w]; exact e2 z hz
    · refine pk_le n' p (fun c => by omega) (fun _ => ⟨vp_in_nI (by omega) (by decide), by rw [e3]; exact vp_in_nI (by omega) (by decide), ?_⟩)
      rw [e3, nI_clamp (by omega), cl45 (by omega), nI_1]
      refine ih _ ⟨fun z hz => ?_, fun j hj hne z hz => ?_⟩
      · unfold mr
        by_cases w : z = k' + p
        · subst w
          rw [if_pos (by omega), upd_same]
          congr 1; omega
        · rw [upd_ne (by omega)]
          have := hr2.1 z hz
          unfold mr at this
          rw [this]
          by_cases w2 : k' ≤ z ∧ z < k' + p
          · rw [if_pos w2, if_pos (by omega)]
          · rw [if_neg w2, if_neg (by omega)]
      · unfold mr
        rw [upd_ne (by omega)]
        exact hr2.2 j hj hne z hz
  · refine pk_le n' p (fun c => by omega) (fun _ => ⟨by rw [e3]; exact vp_in_nI (by omega) (by decide), vp_in_nI (by omega) (by decide), ?_⟩)
    rw [e3, nI_clamp (by omega), cl45 (by omega), nI_1]
    refine ih _ (fun z hz => ?_)
    by_cases w : z = p
    · subst w
      rw [upd_same]
      show mr rows a (i' + z) = _
      exact c2 _ (by omega)
    · rw [upd_ne w]; exact hr z (by omega)
end
