/-! the reference's calls on worlds, over an abstract state of six worlds: (points, lines, kind, mark, the lines); no points: missing -/
abbrev AV : Type := Nat × Nat × Int32 × Int32 × (Nat → Int64)
abbrev vP (v : AV) : Nat := v.1
abbrev vL (v : AV) : Nat := v.2.1
abbrev vK (v : AV) : Int32 := v.2.2.1
abbrev vM (v : AV) : Int32 := v.2.2.2.1
abbrev vG (v : AV) : Nat → Int64 := v.2.2.2.2
/-- lines are not empty -/
def gNE (g : Nat → Int64) (L : Nat) : Prop := ∀ l, l < L → ∃ k, hs (g l) k = true
def AVok (v : AV) : Prop := vP v = 0 ∨ (vP v ≤ 45 ∧ vL v ≤ 45 ∧ gOK (vG v) (vP v) (vL v) ∧ gNE (vG v) (vL v))
abbrev AW : Type := Nat → AV
def AWok (W : AW) : Prop := ∀ j, j < 6 → AVok (W j)
def upW (W : AW) (k : Nat) (v : AV) : AW := fun j => if j = k then v else W j
theorem upW_ok {W : AW} {k : Nat} {v : AV} (h : AWok W) (hv : AVok v) : AWok (upW W k v) := fun j hj => by
  unfold upW
  by_cases e : j = k
  · rw [if_pos e]; exact hv
  · rw [if_neg e]; exact h j hj
def MV (v : AV) (k l m p : Int32) (g : Nat → Int64) : Prop := p = nI (vP v) ∧ (vP v ≠ 0 → l = nI (vL v) ∧ k = vK v ∧ m = vM v ∧ ∀ i, i < vL v → g i = vG v i)
def MW (W : AW) (ks lc : Nat → Int32) (ln : Nat → Int64) (ms pt : Nat → Int32) : Prop := AWok W ∧ ∀ j, j < 6 → MV (W j) (ks j) (lc j) (ms j) (pt j) (mg ln j)
theorem upd_same (f : Nat → Int32) (k : Nat) (x : Int32) : upd f k x k = x := pk_us
theorem upd_ne {f : Nat → Int32} {k j : Nat} {x : Int32} (h : j ≠ k) : upd f k x j = f j := pk_un h
theorem MW_keep {W : AW} {ks lc ms pt : Nat → Int32} {ln nr : Nat → Int64} (h : MW W ks lc ln ms pt) {k P L : Nat} (hk : k < 6) {kd tg : Int32} {g : Nat → Int64} (hv : AVok (P, L, kd, tg, g)) (hL : L ≤ 45) (hr : ∀ l, l < L → nr l = g l) : MW (upW W k (P, L, kd, tg, g)) (upd ks k kd) (upd lc k (nI L)) (kpF ln nr k L) (upd ms k tg) (upd pt k (nI P)) := by
  refine ⟨upW_ok h.1 hv, fun j hj => ?_⟩
  unfold upW
  by_cases e : j = k
  · subst e
    rw [if_pos rfl, upd_same, upd_same, upd_same, upd_same]
    exact ⟨rfl, fun _ => ⟨rfl, rfl, rfl, fun i hi => by rw [mg_kpF_same hi]; exact hr i hi⟩⟩
  · rw [if_neg e, upd_ne e, upd_ne e, upd_ne e, upd_ne e]
    have hh := h.2 j hj
    refine ⟨hh.1, fun h0 => ?_⟩
    obtain ⟨a1, a2, a3, a4⟩ := hh.2 h0
    have hb : vL (W j) ≤ 45 := by
      rcases h.1 j hj with z | z
      · exact absurd z h0
      · exact z.2.1
    exact ⟨a1, a2, a3, fun i hi => by rw [mg_kpF_ne hL (by omega) e]; exact a4 i hi⟩
/-- what is known of a world that is there -/
theorem MW_at {W : AW} {ks lc ms pt : Nat → Int32} {ln : Nat → Int64} (h : MW W ks lc ln ms pt) {j : Nat} (hj : j < 6) (h0 : vP (W j) ≠ 0) : 1 ≤ vP (W j) ∧ vP (W j) ≤ 45 ∧ vL (W j) ≤ 45 ∧ gOK (vG (W j)) (vP (W j)) (vL (W j)) ∧ pt j = nI (vP (W j)) ∧ lc j = nI (vL (W j)) ∧ ks j = vK (W j) ∧ ms j = vM (W j) ∧ (∀ i, i < vL (W j) → mg ln j i = vG (W j) i) ∧ gOK (mg ln j) (vP (W j)) (vL (W j)) := by
  obtain ⟨h1, h2⟩ := h.2 j hj
  obtain ⟨a1, a2, a3, a4⟩ := h2 h0
  rcases h.1 j hj with z | z
  · exact absurd z h0
  · exact ⟨by omega, z.1, z.2.1, z.2.2.1, h1, a1, a2, a3, a4, fun l hl k hk => z.2.2.1 l hl k (by rw [← a4 l hl]; exact hk)⟩
theorem MW_pt0 {W : AW} {ks lc ms pt : Nat → Int32} {ln : Nat → Int64} (h : MW W ks lc ln ms pt) {j : Nat} (hj : j < 6) : pt j = 0 ↔ vP (W j) = 0 := by
  have h1 := (h.2 j hj).1
  have hb : vP (W j) ≤ 45 := by rcases h.1 j hj with z | z <;> omega
  rw [h1]
  constructor
  · intro z; exact Classical.byContradiction fun z2 => nI_ne0 (by omega) (by omega) z
  · intro z; rw [z]; rfl
/-- looking for a world: not a number; missing; there -/
theorem m_look {W : AW} {ks lc ms pt : Nat → Int32} {ln : Nat → Int64} (h : MW W ks lc ln ms pt) {x fd : Int32} {fs : Nat → Int32} {Q : Int32 → Int32 → (Nat → Int32) → Prop} (h1 : (¬ ∃ j, j < 6 ∧ x = nI j) → Q (-1) fd fs) (h2 : ∀ j, j < 6 → x = nI j → vP (W j) = 0 → Q (-3) 1 (fnd fs 1)) (h3 : ∀ j, j < 6 → x = nI j → vP (W j) ≠ 0 → Q 0 fd fs) : w_X7_looked x fd fs pt Q :=
  m_looked h1 (fun j hj e z => h2 j hj e ((MW_pt0 h hj).mp z)) (fun j hj e z => h3 j hj e (fun z2 => z ((MW_pt0 h hj).mpr z2)))
theorem m_world {W : AW} {ks lc ms pt : Nat → Int32} {ln nr : Nat → Int64} (h : MW W ks lc ln ms pt) {x p np nl : Int32} {Q : Int32 → Int32 → Int32 → (Nat → Int32) → (Nat → Int32) → (Nat → Int64) → (Nat → Int32) → (Nat → Int32) → Prop} (hb : (¬ ((∃ j, j < 6 ∧ x = nI j) ∧ ∃ P, 2 ≤ P ∧ P ≤ 45 ∧ p = nI P)) → Q (-1) np nl ks lc ln ms pt) (hg : ∀ j P, j < 6 → x = nI j → 2 ≤ P → P ≤ 45 → p = nI P → ∀ np nl ks lc ln ms pt, MW (upW W j (P, 0, 0, 0, fun _ => 0)) ks lc ln ms pt → Q p np nl ks lc ln ms pt) : w_X7_world x p np nl ks lc ln ms nr pt Q := by
  refine m_isNumber (fun j hj e => ⟨fun c => absurd c (by decide), fun _ => ?_⟩) (fun hn => ⟨fun _ => hb (fun z => hn z.1), fun c => absurd rfl c⟩)
  refine m_in (fun c d => ⟨fun _ => ?_, fun z => absurd z (by decide)⟩) (fun c => ⟨fun z => absurd rfl z, fun _ => hb (fun z => ?_)⟩)
  · have h0 : ¬ p < 0 := fun z => c (by
      rw [fa_lt] at z ⊢
      have e2 : (2 : Int32).toInt = 2 := by decide
      have e0 : (0 : Int32).toInt = 0 := by decide
      omega)
    obtain ⟨P, hP, rfl⟩ := nI_of h0
    have h1 : ¬ P < 2 := fun z => c ((nI_ltI hP (by decide)).mpr z)
    have h2 : ¬ 45 < P := fun z => d ((nI_ltI (by decide) hP).mpr z)
    subst e
    refine m_keep (L := 0) hj (by omega) ?_
    exact hg j P hj rfl (by omega) (by omega) rfl _ _ _ _ _ _ _ (MW_keep (nr := nr) h hj (L := 0) (P := P) (g := fun _ => 0) (Or.inr ⟨by show P ≤ 45; omega, by show 0 ≤ 45; omega, fun l hl => by have : l < 0 := hl; omega, fun l hl => by have : l < 0 := hl; omega⟩) (by omega) (fun l hl => by omega))
  · obtain ⟨-, P, h1, h2, rfl⟩ := z
    rcases c with c | c
    · have := (nI_ltI (by omega) (by decide)).mp (show nI P < nI 2 from c); omega
    · have := (nI_ltI (by decide) (by omega)).mp (show nI 45 < nI P from c); omega
/-- numbers 2 .. 6 -/
theorem m_in26 {x : Int32} {Q : Int32 → Prop} (ht : ∀ a, 2 ≤ a → a ≤ 6 → x = nI a → Q 1) (hf : (¬ ∃ a, 2 ≤ a ∧ a ≤ 6 ∧ x = nI a) → Q 0) : w_X7_in x 2 6 Q := by
  refine m_in (fun c d => ?_) (fun c => hf ?_)
  · have h0 : ¬ x < 0 := fun z => c (by
      rw [fa_lt] at z ⊢
      have e2 : (2 : Int32).toInt = 2 := by decide
      have e0 : (0 : Int32).toInt = 0 := by decide
      omega)
    obtain ⟨a, ha, rfl⟩ := nI_of h0
    have h1 : ¬ a < 2 := fun z => c ((nI_ltI ha (by decide)).mpr z)
    have h2 : ¬ 6 < a := fun z => d ((nI_ltI (by decide) ha).mpr z)
    exact ht a (by omega) (by omega) rfl
  · rintro ⟨a, h1, h2, rfl⟩
    rcases c with c | c
    · have := (nI_ltI (by omega) (by decide)).mp (show nI a < nI 2 from c); omega
    · have := (nI_ltI (by decide) (by omega)).mp (show nI 6 < nI a from c); omega
theorem gGr_NE {a b : Nat} (ha0 : 1 ≤ a) (ha : a ≤ 6) (hb0 : 1 ≤ b) (hb : b ≤ 6) : gNE (gGr a b) (a + b) := by
  intro l hl
  unfold gGr
  by_cases c : l < a
  · rw [if_pos c]
    exact ⟨b * l + 0, (hs_orS _ _ _ (fun j hj => by have := grid_bd ha hb c hj; omega)).mpr ⟨0, by omega, rfl⟩⟩
  · rw [if_neg c]
    exact ⟨b * 0 + (l - a), (hs_orS _ _ _ (fun i hi => by have := grid_bd ha hb hi (show l - a < b by omega); omega)).mpr ⟨0, by omega, rfl⟩⟩
theorem grid_le {a b : Nat} (ha : a ≤ 6) (hb : b ≤ 6) : a * b ≤ 45 := by
  have : a * b ≤ 6 * 6 := Nat.mul_le_mul ha hb
  omega
theorem m_grid {W : AW} {ks lc ms pt : Nat → Int32} {ln nr : Nat → Int64} (h : MW W ks lc ln ms pt) {x xa xb np nl : Int32} {Q : Int32 → Int32 → Int32 → (Nat → Int32) → (Nat → Int32) → (Nat → Int64) → (Nat → Int32) → (Nat → Int64) → (Nat → Int32) → Prop} (hb : (¬ ((∃ j, j < 6 ∧ x = nI j) ∧ (∃ a, 2 ≤ a ∧ a ≤ 6 ∧ xa = nI a) ∧ ∃ b, 2 ≤ b ∧ b ≤ 6 ∧ xb = nI b)) → Q (-1) np nl ks lc ln ms nr pt) (hg : ∀ j a b, j < 6 → x = nI j → 2 ≤ a → a ≤ 6 → xa = nI a → 2 ≤ b → b ≤ 6 → xb = nI b → ∀ np nl ks lc ln ms nr pt, MW (upW W j (a * b, a + b, 1, nI a, gGr a b)) ks lc ln ms pt → Q (nI (a * b)) np nl ks lc ln ms nr pt) : w_X7_grid x xa xb np nl ks lc ln ms nr pt Q := by
  refine m_isNumber (fun j hj e => ⟨fun c => absurd c (by decide), fun _ => ?_⟩) (fun hn => ⟨fun _ => hb (fun z => hn z.1), fun c => absurd rfl c⟩)
  refine m_in26 (fun a ha1 ha2 ea => ⟨fun c => absurd c (by decide), fun _ => ?_⟩) (fun hn => ⟨fun _ => hb (fun z => hn z.2.1), fun c => absurd rfl c⟩)
  refine m_in26 (fun b hb1 hb2 eb => ⟨fun _ => ?_, fun c => absurd c (by decide)⟩) (fun hn => ⟨fun c => absurd rfl c, fun _ => hb (fun z => hn z.2.2)⟩)
  subst e; subst ea; subst eb
  have hq := hg j a b hj rfl ha1 ha2 rfl hb1 hb2 rfl
  have hP := grid_le ha2 hb2
  rw [pk_mul]
  refine pk_loop (fun n i (r : Nat → Int64) => w_X7_grid_44 (nI j) (nI a) (nI b) (nI (a * b)) ks lc ln ms pt Q n (nI i) (nI i) r) (fun i r => ∀ l, l < i → r l = gGr a b l) a 0 nr (Nat.zero_le _) (fun l hl => by omega) (fun n r hr => ?_) (fun n i r hi hr ih => ?_)
  · refine pk_le a a (fun _ => ?_) (fun c => by omega)
    refine pk_loop (fun n i (r : Nat → Int64) => w_X7_grid_97 (nI j) (nI a) (nI b) (nI (a * b)) ks lc ln ms pt Q n (nI i) (nI (a + i)) r) (fun i r => ∀ l, l < a + i → r l = gGr a b l) b 0 r (Nat.zero_le _) hr (fun n r hr => ?_) (fun n i r hi hr ih => ?_)
    · refine pk_le b b (fun _ => m_keep hj (by omega) ?_) (fun c => by omega)
      exact hq _ _ _ _ _ _ _ _ (MW_keep h hj (Or.inr ⟨hP, by show a + b ≤ 45; omega, gGr_OK ha2 hb2, gGr_NE (by omega) ha2 (by omega) hb2⟩) (by omega) hr)
    · refine pk_le b i (fun c => by omega) (fun _ => ?_)
      refine lpf (fun n k q => w_X7_grid_109 (nI j) (nI a) (nI b) (nI i) (nI (a * b)) (nI (a + i)) ks lc ln ms r pt _ Q n q (nI k)) (orS (fun k => b * k + i)) a 0 (Nat.zero_le _) (fun n' => ?_) (fun n' k _ hk ihk => ?_)
      · refine pk_le a a (fun _ => m_add (by omega) ?_) (fun c => by omega)
        rw [nI_1]
        refine ih _ (fun l hl => ?_)
        unfold vp_updL
        by_cases e : l = a + i
        · rw [if_pos e, e]
          unfold gGr
          rw [if_neg (by omega), show a + i - a = i by omega]
        · rw [if_neg e]
          exact hr l (by omega)
      · refine pk_le a k (fun c => by omega) (fun _ => ?_)
        rw [pk_mul, nI_add, nI_1]
        exact ihk
  · refine pk_le a i (fun c => by omega) (fun _ => ?_)
    refine lpf (fun n k q => w_X7_grid_56 (nI j) (nI a) (nI b) (nI i) (nI (a * b)) (nI i) ks lc ln ms r pt _ Q n q (nI k)) (orS (fun k => b * i + k)) b 0 (Nat.zero_le _) (fun n' => ?_) (fun n' k _ hk ihk => ?_)
    · refine pk_le b b (fun _ => m_add (by omega) ?_) (fun c => by omega)
      rw [nI_1]
      refine ih _ (fun l hl => ?_)
      unfold vp_updL
      by_cases e : l = i
      · rw [if_pos e, e]
        unfold gGr
        rw [if_pos hi]
      · rw [if_neg e]
        exact hr l (by omega)
    · refine pk_le b k (fun c => by omega) (fun _ => ?_)
      rw [pk_mul, nI_add, nI_1]
      exact ihk
