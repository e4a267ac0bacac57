/-! the first fault -/
/-- how many lines through p meet line i -/
def wys (g : Nat → Int64) (L i p : Nat) : Nat := fb_ct (fun j => hs (g j) p && decide (¬ (g j &&& g i) = 0)) L
/-- up to (i, j) no two lines have two points together -/
def noPr (g : Nat → Int64) (L i j : Nat) : Prop := ∀ a b, a < b → b < L → (a < i ∨ a = i ∧ b < j) → pop (g a &&& g b) < 2
def noMt (g : Nat → Int64) (P L i p : Nat) : Prop := ∀ a q, a < L → q < P → (a < i ∨ a = i ∧ q < p) → hs (g a) q = true ∨ wys g L a q = 1
/-- the code of the first fault -/
def isF (g : Nat → Int64) (P L c : Nat) : Prop :=
  (c = 0 ∧ noPr g L L 0 ∧ noMt g P L L 0) ∨ (∃ i j, i < j ∧ j < L ∧ noPr g L i j ∧ 2 ≤ pop (g i &&& g j) ∧ c = 10000 + 100 * i + j) ∨ (∃ i p, i < L ∧ p < P ∧ noPr g L L 0 ∧ noMt g P L i p ∧ hs (g i) p = false ∧ wys g L i p ≠ 1 ∧ c = (if wys g L i p = 0 then 20000 else 30000) + 100 * i + p)
theorem isF_one {g : Nat → Int64} {P L c d : Nat} (hP : P ≤ 45) (hL : L ≤ 45) (hc : isF g P L c) (hd : isF g P L d) : c = d := by
  rcases hc with ⟨rfl, a1, a2⟩ | ⟨i, j, a1, a2, a3, a4, rfl⟩ | ⟨i, p, a1, a2, a3, a4, a5, a6, rfl⟩ <;>
  rcases hd with ⟨rfl, b1, b2⟩ | ⟨i', j', b1, b2, b3, b4, rfl⟩ | ⟨i', p', b1, b2, b3, b4, b5, b6, rfl⟩
  · rfl
  · have := a1 i' j' b1 b2 (Or.inl (by omega)); omega
  · rcases a2 i' p' b1 b2 (Or.inl b1) with h | h
    · rw [h] at b5; cases b5
    · exact absurd h b6
  · have := b1 i j a1 a2 (Or.inl (by omega)); omega
  · by_cases e : i < i' ∨ i = i' ∧ j < j'
    · have := b3 i j a1 a2 e; omega
    · by_cases e2 : i' < i ∨ i' = i ∧ j' < j
      · have := a3 i' j' b1 b2 e2; omega
      · omega
  · have := b3 i j a1 a2 (Or.inl (by omega)); omega
  · rcases b2 i p a1 a2 (Or.inl a1) with h | h
    · rw [h] at a5; cases a5
    · exact absurd h a6
  · have := a3 i' j' b1 b2 (Or.inl (by omega)); omega
  · by_cases e : i < i' ∨ i = i' ∧ p < p'
    · rcases b4 i p a1 a2 e with h | h
      · rw [h] at a5; cases a5
      · exact absurd h a6
    · by_cases e2 : i' < i ∨ i' = i ∧ p' < p
      · rcases a4 i' p' b1 b2 e2 with h | h
        · rw [h] at b5; cases b5
        · exact absurd h b6
      · have e3 : i = i' := by omega
        have e4 : p = p' := by omega
        rw [e3, e4]
theorem isF_ex (g : Nat → Int64) (P L : Nat) : ∃ c, isF g P L c := by
  by_cases h1 : noPr g L L 0
  · by_cases h2 : noMt g P L L 0
    · exact ⟨0, Or.inl ⟨rfl, h1, h2⟩⟩
    · have hx : ∃ a, a < L ∧ ¬ ∀ q, q < P → hs (g a) q = true ∨ wys g L a q = 1 := by
        apply Classical.byContradiction
        intro z
        refine h2 (fun a q ha hq _ => ?_)
        apply Classical.byContradiction
        intro z2
        exact z ⟨a, ha, fun z3 => z2 (z3 q hq)⟩
      have hx' : ∃ a, a < L ∧ (fun a => ¬ ∀ q, q < P → hs (g a) q = true ∨ wys g L a q = 1) a := hx
      have : DecidablePred (fun a => ¬ ∀ q, q < P → hs (g a) q = true ∨ wys g L a q = 1) := fun _ => Classical.propDecidable _
      obtain ⟨i, hi, hb, hmin⟩ := fb_first hx'
      have hy' : ∃ q, q < P ∧ (fun q => ¬ (hs (g i) q = true ∨ wys g L i q = 1)) q := by
        apply Classical.byContradiction
        intro z
        refine hb (fun q hq => ?_)
        apply Classical.byContradiction
        intro z2
        exact z ⟨q, hq, z2⟩
      have : DecidablePred (fun q => ¬ (hs (g i) q = true ∨ wys g L i q = 1)) := fun _ => Classical.propDecidable _
      obtain ⟨p, hp, hc, hm2⟩ := fb_first hy'
      refine ⟨_, Or.inr (Or.inr ⟨i, p, hi, hp, h1, fun a q ha hq hl => ?_, bool_ff (fun z => hc (Or.inl z)), fun z => hc (Or.inr z), rfl⟩)⟩
      rcases hl with hl | ⟨rfl, hl⟩
      · exact Classical.byContradiction fun z => hmin a hl (fun z2 => z (z2 q hq))
      · exact Classical.byContradiction fun z => hm2 q hl z
  · have hx' : ∃ a, a < L ∧ (fun a => ¬ ∀ b, a < b → b < L → pop (g a &&& g b) < 2) a := by
      apply Classical.byContradiction
      intro z
      refine h1 (fun a b hab hb _ => ?_)
      apply Classical.byContradiction
      intro z2
      exact z ⟨a, by omega, fun z3 => z2 (z3 b hab hb)⟩
    have : DecidablePred (fun a => ¬ ∀ b, a < b → b < L → pop (g a &&& g b) < 2) := fun _ => Classical.propDecidable _
    obtain ⟨i, hi, hb, hmin⟩ := fb_first hx'
    have hy' : ∃ b, b < L ∧ (fun b => ¬ (i < b → pop (g i &&& g b) < 2)) b := by
      apply Classical.byContradiction
      intro z
      refine hb (fun b h5 h6 => ?_)
      apply Classical.byContradiction
      intro z2
      exact z ⟨b, h6, fun z3 => z2 (z3 h5)⟩
    have : DecidablePred (fun b => ¬ (i < b → pop (g i &&& g b) < 2)) := fun _ => Classical.propDecidable _
    obtain ⟨j, hj, hc, hm2⟩ := fb_first hy'
    have hij : i < j ∧ ¬ pop (g i &&& g j) < 2 := by
      by_cases h5 : i < j
      · exact ⟨h5, fun z => hc (fun _ => z)⟩
      · exact absurd (fun z => absurd z h5) hc
    refine ⟨_, Or.inr (Or.inl ⟨i, j, hij.1, hj, fun a b hab hb' hl => ?_, by omega, rfl⟩)⟩
    rcases hl with hl | ⟨rfl, hl⟩
    · exact Classical.byContradiction fun z => hmin a hl (fun z2 => z (z2 b hab hb'))
    · exact Classical.byContradiction fun z => hm2 b hl (fun z2 => z (z2 hab))
noncomputable def flt (g : Nat → Int64) (P L : Nat) : Nat := Classical.choose (isF_ex g P L)
theorem flt_is (g : Nat → Int64) (P L : Nat) : isF g P L (flt g P L) := Classical.choose_spec (isF_ex g P L)
theorem flt_eq {g : Nat → Int64} {P L c : Nat} (hP : P ≤ 45) (hL : L ≤ 45) (h : isF g P L c) : flt g P L = c := isF_one hP hL (flt_is g P L) h
theorem flt_lt {g : Nat → Int64} {P L : Nat} (hP : P ≤ 45) (hL : L ≤ 45) : flt g P L < 40000 := by
  rcases flt_is g P L with ⟨h, -⟩ | ⟨i, j, h1, h2, -, -, h⟩ | ⟨i, p, h1, h2, -, -, -, -, h⟩
  · omega
  · omega
  · rw [h]; split <;> omega
theorem noPr_all {g : Nat → Int64} {L : Nat} : noPr g L L 0 ↔ ∀ a b, a < b → b < L → pop (g a &&& g b) < 2 :=
  ⟨fun h a b h1 h2 => h a b h1 h2 (Or.inl (by omega)), fun h a b h1 h2 _ => h a b h1 h2⟩
theorem pair_nI {i j : Nat} : (10000 : Int32) + 100 * nI i + nI j = nI (10000 + 100 * i + j) := by
  rw [show (10000 : Int32) = nI 10000 from rfl, show (100 : Int32) = nI 100 from rfl, pk_mul, nI_add, nI_add]
theorem s_firstPair {L : Nat} (hL : L ≤ 45) {g : Nat → Int64} {Q : Int32 → Prop} (h0 : noPr g L L 0 → Q 0) (h1 : ∀ i j, i < j → j < L → noPr g L i j → 2 ≤ pop (g i &&& g j) → Q (nI (10000 + 100 * i + j))) : w_X0_firstPair (nI L) g Q := by
  have key : ∀ m i, m + i = L → noPr g L i 0 → ∃ n, w_X0_firstPair_2 (nI L) g Q n (nI i) := by
    intro m
    induction m with
    | zero =>
      intro i hm ha
      have : i = L := by omega
      subst this
      exact ⟨1, pk_le i i (fun _ => h0 ha) (fun c => by omega)⟩
    | succ m ih =>
      intro i hm ha
      by_cases hb : ∀ b, i < b → b < L → pop (g i &&& g b) < 2
      · obtain ⟨n, hn⟩ := ih (i + 1) (by omega) (fun a b h5 h6 h7 => by
          by_cases e : a = i
          · rw [e]; exact hb b (by omega) h6
          · exact ha a b h5 h6 (Or.inl (by omega)))
        refine ⟨n + 1, pk_le L i (fun c => by omega) (fun _ => ?_)⟩
        rw [nI_1]
        refine lpq (fun n' j => w_X0_firstPair_14 (nI i) (nI L) g _ Q n' (nI j)) L (i + 1) (by omega) (fun n' => ?_) (fun n' j h5 h6 ihj => ?_)
        · refine pk_le L L (fun _ => ?_) (fun c => by omega)
          rw [nI_1]; exact hn
        · refine pk_le L j (fun c => by omega) (fun _ => ⟨in45 (by omega), in45 (by omega), s_bitCount ?_⟩)
          rw [cl45 (by omega), cl45 (by omega)]
          have a1 := pop_le (g i &&& g j)
          refine pk_lt (pop (g i &&& g j)) 2 (fun _ => ?_) (fun c => by have := hb j (by omega) h6; omega)
          rw [nI_1]; exact ihj
      · have hx : ∃ j, j < L ∧ (fun j => ¬ (i < j → pop (g i &&& g j) < 2)) j := by
          apply Classical.byContradiction
          intro z
          refine hb (fun b h5 h6 => ?_)
          apply Classical.byContradiction
          intro z2
          exact z ⟨b, h6, fun z3 => z2 (z3 h5)⟩
        have : DecidablePred (fun j => ¬ (i < j → pop (g i &&& g j) < 2)) := fun _ => Classical.propDecidable _
        obtain ⟨j, hj, hc, hmin⟩ := fb_first hx
        have hij : i < j ∧ ¬ pop (g i &&& g j) < 2 := by
          by_cases h5 : i < j
          · exact ⟨h5, fun z => hc (fun _ => z)⟩
          · exact absurd (fun z => absurd z h5) hc
        have hq := h1 i j hij.1 hj (fun a b h5 h6 h7 => by
          rcases h7 with h7 | ⟨rfl, h7⟩
          · exact ha a b h5 h6 (Or.inl h7)
          · exact Classical.byContradiction fun z => hmin b h7 (fun z2 => z (z2 h5))) (by omega)
        refine ⟨1, pk_le L i (fun c => by omega) (fun _ => ?_)⟩
        rw [nI_1]
        refine lpq (fun n' j => w_X0_firstPair_14 (nI i) (nI L) g _ Q n' (nI j)) j (i + 1) (by omega) (fun n' => ?_) (fun n' k h5 h6 ihj => ?_)
        · refine pk_le L j (fun c => by omega) (fun _ => ⟨in45 (by omega), in45 (by omega), s_bitCount ?_⟩)
          rw [cl45 (by omega), cl45 (by omega)]
          have a1 := pop_le (g i &&& g j)
          refine pk_lt (pop (g i &&& g j)) 2 (fun c => by omega) (fun _ => ?_)
          rw [pair_nI]
          exact hq
        · refine pk_le L k (fun c => by omega) (fun _ => ⟨in45 (by omega), in45 (by omega), s_bitCount ?_⟩)
          rw [cl45 (by omega), cl45 (by omega)]
          have a1 := pop_le (g i &&& g k)
          have a2 : pop (g i &&& g k) < 2 := Classical.byContradiction fun z => hmin k h6 (fun z2 => z (z2 (by omega)))
          refine pk_lt (pop (g i &&& g k)) 2 (fun _ => ?_) (fun c => by omega)
          rw [nI_1]; exact ihj
  exact key L 0 rfl (fun a b _ _ h => by omega)
theorem mtg_wys {g : Nat → Int64} {P L i p : Nat} (hP : P ≤ 45) (hL : L ≤ 45) (hg : gOK g P L) (hi : i < L) : pop (thr g L p &&& orF (thr g L) (g i) P) = wys g L i p := by
  unfold pop wys
  have e : fb_ct (hs (thr g L p &&& orF (thr g L) (g i) P)) 64 = fb_ct (hs (thr g L p &&& orF (thr g L) (g i) P)) L := by
    rw [show 64 = L + (64 - L) by omega, fb_ct_split]
    have e0 : fb_ct (fun k => hs (thr g L p &&& orF (thr g L) (g i) P) (L + k)) (64 - L) = 0 := fb_ct_zero.mpr (fun k _ => bool_ff (fun z => by
      rw [hs_and, Bool.and_eq_true] at z
      have := thr_in hL z.1
      omega))
    rw [e0, Nat.add_zero]
  rw [e]
  refine fb_ct_cong (fun j hj => ?_)
  rw [hs_and]
  have e1 : hs (thr g L p) j = hs (g j) p := by
    cases hb : hs (g j) p
    · exact bool_ff (fun z => by have := ((hs_thr g p j L hL).mp z).2; rw [hb] at this; cases this)
    · exact (hs_thr g p j L hL).mpr ⟨hj, hb⟩
  rw [e1]
  cases hb : hs (g j) p
  · rfl
  · simp only [Bool.true_and]
    by_cases c : (g j &&& g i) = 0
    · simp only [c, not_true_eq_false, decide_false]
      refine bool_ff (fun z => ?_)
      obtain ⟨q, h1, h2, h3⟩ := (hs_orF _ _ _ _).mp z
      have h4 := ((hs_thr g q j L hL).mp h3).2
      have h5 := (zero_iff _).mp c q (by omega)
      rw [hs_and, h4, h2] at h5
      cases h5
    · simp only [c, not_false_eq_true, decide_true]
      have hq : ∃ q, q < 64 ∧ hs (g j &&& g i) q = true := by
        apply Classical.byContradiction
        intro z
        exact c ((zero_iff _).mpr (fun k hk => bool_ff (fun z2 => z ⟨k, hk, z2⟩)))
      obtain ⟨q, h1, h2⟩ := hq
      rw [hs_and, Bool.and_eq_true] at h2
      exact (hs_orF _ _ _ _).mpr ⟨q, hg i hi q h2.2, h2.2, (hs_thr g q j L hL).mpr ⟨hj, h2.1⟩⟩
theorem wys_le (g : Nat → Int64) (L i p : Nat) : wys g L i p ≤ L := fb_ct_le _ _

theorem meet_nI {k i p : Nat} : (10000 : Int32) * nI k + 100 * nI i + nI p = nI (10000 * k + 100 * i + p) := by
  rw [show (10000 : Int32) = nI 10000 from rfl, show (100 : Int32) = nI 100 from rfl, pk_mul, pk_mul, nI_add, nI_add]
/-- what a world of the class holds of its lines -/
def okA (P L : Nat) (g near through : Nat → Int64) : Prop := ∀ p, p < P → near p = nrs g L p ∧ through p = thr g L p
theorem orF_cong {g g' : Nat → Int64} (x : Int64) : ∀ {n : Nat}, (∀ i, i < n → g i = g' i) → orF g x n = orF g' x n
  | 0, _ => rfl
  | n + 1, h => by rw [orF, orF, h n (by omega), orF_cong x (fun i hi => h i (by omega))]
theorem andF_cong {g g' : Nat → Int64} (x a : Int64) : ∀ {n : Nat}, (∀ i, i < n → g i = g' i) → andF g x a n = andF g' x a n
  | 0, _ => rfl
  | n + 1, h => by rw [andF, andF, h n (by omega), andF_cong x a (fun i hi => h i (by omega))]
theorem s_firstMeeting {P L : Nat} (hP : P ≤ 45) (hL : L ≤ 45) {g th : Nat → Int64} (hg : gOK g P L) (ho : ∀ p, p < P → th p = thr g L p) {Q : Int32 → Prop} (h0 : noMt g P L L 0 → Q 0) (h1 : ∀ i p, i < L → p < P → noMt g P L i p → hs (g i) p = false → wys g L i p ≠ 1 → Q (nI ((if wys g L i p = 0 then 20000 else 30000) + 100 * i + p))) : w_X0_firstMeeting (nI P) (nI L) g th Q := by
  have wb : ∀ i p, i < L → p < P → pop (th p &&& orF th (g i) P) = wys g L i p := fun i p hi hp => by
    rw [ho p hp, orF_cong (g i) ho, mtg_wys hP hL hg hi]
  have key : ∀ m i, m + i = L → noMt g P L i 0 → ∃ n, w_X0_firstMeeting_2 (nI P) (nI L) g th Q n (nI i) := by
    intro m
    induction m with
    | zero =>
      intro i hm ha
      have : i = L := by omega
      subst this
      exact ⟨1, pk_le i i (fun _ => h0 ha) (fun c => by omega)⟩
    | succ m ih =>
      intro i hm ha
      have inner : ∀ (K : Int32 → Prop), (noMt g P L (i + 1) 0 → K (nI (i + 1))) → ∃ n, w_X0_firstMeeting_24 (nI i) (orF th (g i) P) (nI P) (nI L) g th K Q n 0 := by
        intro K hK
        have k2 : ∀ m p, m + p = P → noMt g P L i p → ∃ n, w_X0_firstMeeting_24 (nI i) (orF th (g i) P) (nI P) (nI L) g th K Q n (nI p) := by
          intro m
          induction m with
          | zero =>
            intro p hp hb
            have : p = P := by omega
            subst this
            refine ⟨1, pk_le p p (fun _ => ?_) (fun c => by omega)⟩
            rw [nI_1]
            exact hK (fun a q h5 h6 h7 => hb a q h5 h6 (by omega))
          | succ m ih2 =>
            intro p hp hb
            by_cases hc : hs (g i) p = true ∨ wys g L i p = 1
            · obtain ⟨n, hn⟩ := ih2 (p + 1) (by omega) (fun a q h5 h6 h7 => by
                by_cases e : a = i ∧ q = p
                · rw [e.1, e.2]; exact hc
                · exact hb a q h5 h6 (by omega))
              refine ⟨n + 1, pk_le P p (fun c => by omega) (fun _ => ⟨in45 (by omega), s_bitCount ⟨in45 (by omega), ?_⟩⟩)⟩
              rw [cl45 (by omega), cl45 (by omega), wb i p (by omega) (by omega)]
              refine s_has (by omega) (fun b => ⟨fun _ => ?_, fun c => absurd c (by decide)⟩) (fun b => ⟨fun c => absurd rfl c, fun _ => ⟨fun _ => ?_, fun c => ?_⟩⟩)
              · show w_X0_firstMeeting_24 _ _ _ _ _ _ K Q n _
                rw [nI_1]; exact hn
              · show w_X0_firstMeeting_24 _ _ _ _ _ _ K Q n _
                rw [nI_1]; exact hn
              · rcases hc with hc | hc
                · rw [b] at hc; cases hc
                · exact absurd (by rw [hc]; rfl) c
            · have hf : hs (g i) p = false := bool_ff (fun z => hc (Or.inl z))
              have hw : wys g L i p ≠ 1 := fun z => hc (Or.inr z)
              have hq := h1 i p (by omega) (by omega) hb hf hw
              have hwl := wys_le g L i p
              refine ⟨1, pk_le P p (fun c => by omega) (fun _ => ⟨in45 (by omega), s_bitCount ⟨in45 (by omega), ?_⟩⟩)⟩
              rw [cl45 (by omega), cl45 (by omega), wb i p (by omega) (by omega)]
              refine s_has (by omega) (fun b => by rw [hf] at b; cases b) (fun b => ⟨fun c => absurd rfl c, fun _ => ⟨fun c => absurd ((nI_eq (by omega) (by decide)).mp c) hw, fun _ => ⟨fun c => ?_, fun c => ?_⟩⟩⟩)
              · have h5 : wys g L i p ≠ 0 := fun z => c (by rw [z]; rfl)
                rw [if_neg h5] at hq
                show Q (10000 * nI 3 + 100 * nI i + nI p)
                rw [meet_nI]
                exact hq
              · have h5 : wys g L i p = 0 := (nI_eq (by omega) (by decide)).mp c
                rw [if_pos h5] at hq
                show Q (10000 * nI 2 + 100 * nI i + nI p)
                rw [meet_nI]
                exact hq
        exact k2 P 0 rfl ha
      by_cases hd : noMt g P L (i + 1) 0
      · obtain ⟨n, hn⟩ := ih (i + 1) (by omega) hd
        refine ⟨n + 1, pk_le L i (fun c => by omega) (fun _ => ⟨in45 (by omega), ?_⟩)⟩
        rw [cl45 (by omega)]
        exact s_linesMeeting hP (inner _ (fun _ => hn))
      · refine ⟨1, pk_le L i (fun c => by omega) (fun _ => ⟨in45 (by omega), ?_⟩)⟩
        rw [cl45 (by omega)]
        exact s_linesMeeting hP (inner _ (fun z => absurd z hd))
  exact key L 0 rfl (fun a q _ _ h => by omega)
theorem s_firstOf {P L : Nat} (hP : P ≤ 45) (hL : L ≤ 45) {g th : Nat → Int64} (hg : gOK g P L) (ho : ∀ p, p < P → th p = thr g L p) {Q : Int32 → Prop} (h : Q (nI (flt g P L))) : w_X0_firstOf (nI P) (nI L) g th Q := by
  have hc : ∀ c, isF g P L c → Q (nI c) := fun c z => by rw [← flt_eq hP hL z]; exact h
  refine s_firstPair hL (fun a => ⟨fun _ => ?_, fun c => absurd rfl c⟩) (fun i j h1 h2 h3 h4 => ⟨fun c => ?_, fun _ => hc _ (Or.inr (Or.inl ⟨i, j, h1, h2, h3, h4, rfl⟩))⟩)
  · exact s_firstMeeting hP hL hg ho (fun b => hc 0 (Or.inl ⟨rfl, a, b⟩)) (fun i p h1 h2 h3 h4 h5 => hc _ (Or.inr (Or.inr ⟨i, p, h1, h2, a, h3, h4, h5, rfl⟩)))
  · exact absurd c (nI_ne0 (by omega) (by omega))
