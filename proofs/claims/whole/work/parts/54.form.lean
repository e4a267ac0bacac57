/-! the class's form -/
theorem nI_sub {a b : Nat} (h : b ≤ a) : nI a - nI b = nI (a - b) := by
  have e : nI a = nI (a - b) + nI b := by rw [nI_add]; congr 1; omega
  rw [e, Int32.add_sub_cancel]
theorem vrem_nI {a b : Nat} (ha : a < 2 ^ 31) (h0 : 0 < b) (hb : b < 2 ^ 31) : vrem (nI a) (nI b) = nI (a % b) := by
  unfold vrem
  rw [pk_div ha h0 hb, pk_mul, nI_sub (Nat.div_mul_le_self a b)]
  congr 1
  have := Nat.div_add_mod a b
  rw [Nat.mul_comm] at this
  omega
theorem lN_orr (a b : Nat) : (lN a ||| lN b) = lN (a ||| b) := hs_ext (fun k hk => by
  rw [hs_or, hs_lN, hs_lN, hs_lN, Nat.testBit_or]
  simp [hk])
theorem lN_andd (a b : Nat) : (lN a &&& lN b) = lN (a &&& b) := hs_ext (fun k hk => by
  rw [hs_and, hs_lN, hs_lN, hs_lN, Nat.testBit_and]
  simp [hk])
theorem lN_inj {a b : Nat} (ha : a < 2 ^ 64) (hb : b < 2 ^ 64) : lN a = lN b ↔ a = b := by
  constructor
  · intro h
    have e : (BitVec.ofNat 64 a) = BitVec.ofNat 64 b := by rw [← wb_tb, ← wb_tb, h]
    have e2 := congrArg BitVec.toNat e
    rw [BitVec.toNat_ofNat, BitVec.toNat_ofNat, Nat.mod_eq_of_lt ha, Nat.mod_eq_of_lt hb] at e2
    exact e2
  · intro h; rw [h]
theorem isQ_le {q : Nat} (h : isQ q) : 2 ≤ q ∧ q ≤ 3 := by rcases h with rfl | rfl <;> omega
def Rq (q : Nat) : Nat := q * q * q * q
theorem Rq_le {q : Nat} (h : isQ q) : 16 ≤ Rq q ∧ Rq q ≤ 81 := by rcases h with rfl | rfl <;> decide
theorem Pq_le {q : Nat} (h : isQ q) : 15 ≤ Pq q ∧ Pq q ≤ 40 := by rcases h with rfl | rfl <;> decide
theorem dq_lt2 : ∀ c, c < 81 → ∀ i, i < 4 → dq 3 c i < 3 := by decide
theorem dq_lt1 : ∀ c, c < 16 → ∀ i, i < 4 → dq 2 c i < 2 := by decide
theorem dq_lt {q c i : Nat} (h : isQ q) (hc : c < Rq q) (hi : i < 4) : dq q c i < q := by
  rcases h with rfl | rfl
  · exact dq_lt1 c hc i hi
  · exact dq_lt2 c hc i hi
/-- what a row is read as, place by place -/
def fpR (q c : Nat) : Nat → Nat × Nat
  | 0 => (c, 0)
  | i + 1 => ((fpR q c i).1 / q, if (fpR q c i).1 % q = 0 then (fpR q c i).2 else (fpR q c i).1 % q)
theorem fpR_2 : ∀ c, c < 16 → ((fpR 2 c 4).2 = 1 ↔ frs 2 c = 1) := by decide
theorem fpR_3 : ∀ c, c < 81 → ((fpR 3 c 4).2 = 1 ↔ frs 3 c = 1) := by decide +kernel
theorem fpR_q {q c : Nat} (h : isQ q) (hc : c < Rq q) : (fpR q c 4).2 = 1 ↔ frs q c = 1 := by
  rcases h with rfl | rfl
  · exact fpR_2 c hc
  · exact fpR_3 c hc
theorem fpR_le (q c : Nat) (hq : 0 < q) : ∀ i, (fpR q c i).1 ≤ c ∧ (fpR q c i).2 < q
  | 0 => ⟨Nat.le_refl _, hq⟩
  | i + 1 => by
    obtain ⟨h1, h2⟩ := fpR_le q c hq i
    have h3 := Nat.div_le_self (fpR q c i).1 q
    have h4 := Nat.mod_lt (fpR q c i).1 hq
    refine ⟨by show (fpR q c i).1 / q ≤ c; omega, ?_⟩
    show (if _ then _ else _) < q
    split
    · exact h2
    · exact h4
theorem s_isFormPoint {q c : Nat} (h : isQ q) (hc : c < Rq q) {Q : Int32 → Prop} (h1 : frs q c = 1 → Q 1) (h0 : frs q c ≠ 1 → Q 0) : w_X1_isFormPoint (nI c) (nI q) Q := by
  have hq := isQ_le h
  have hR := Rq_le h
  refine lpf (fun n i (s : Nat × Nat) => w_X1_isFormPoint_7 (nI q) Q n (nI s.1) (nI s.2) (nI i)) (fpR q c) 4 0 (by omega) (fun n => ?_) (fun n i _ hi ih => ?_)
  · obtain ⟨-, b2⟩ := fpR_le q c (by omega) 4
    refine pk_le 4 4 (fun _ => ⟨fun d => ⟨Or.inl rfl, h0 (fun z => d ?_)⟩, fun d => ⟨Or.inr rfl, h1 ?_⟩⟩) (fun c => by omega)
    · rw [(fpR_q h hc).mpr z]; rfl
    · exact (fpR_q h hc).mp ((nI_eq (b := 1) (by omega) (by omega)).mp d)
  · obtain ⟨b1, b2⟩ := fpR_le q c (by omega) i
    have hm := Nat.mod_lt (fpR q c i).1 (show 0 < q by omega)
    refine pk_le 4 i (fun d => by omega) (fun _ => ⟨nI_ne0 (by omega) (by omega), ?_⟩)
    rw [vrem_nI (by omega) (by omega) (by omega)]
    refine ⟨fun d => ⟨nI_ne0 (by omega) (by omega), ?_⟩, fun d => ⟨nI_ne0 (by omega) (by omega), nI_ne0 (by omega) (by omega), ?_⟩⟩
    · have e : (fpR q c i).1 % q = 0 := (nI_eq (b := 0) (by omega) (by omega)).mp d
      rw [pk_div (by omega) (by omega) (by omega), nI_1]
      rw [fpR, if_pos e] at ih
      exact ih
    · have e : ¬ (fpR q c i).1 % q = 0 := fun z => d (by rw [z]; rfl)
      rw [pk_div (by omega) (by omega) (by omega), nI_1]
      rw [fpR, if_neg e] at ih
      exact ih
def zfb (q : Nat) : Bool := rg 5 fun a => rg 5 fun b => rg 5 fun c => rg 5 fun d => decide (vrem (((nI a - nI b) + nI c) - nI d) (nI q) = 0) == ((a + (q - 1) * b + c + (q - 1) * d) % q == 0)
theorem zfb_2 : zfb 2 = true := by decide +kernel
theorem zfb_3 : zfb 3 = true := by decide +kernel
theorem zf_q {q : Nat} (h : isQ q) {a b c d : Nat} (ha : a < 5) (hb : b < 5) (hc : c < 5) (hd : d < 5) : vrem (((nI a - nI b) + nI c) - nI d) (nI q) = 0 ↔ ((a + (q - 1) * b + c + (q - 1) * d) % q == 0) = true := by
  have k : zfb q = true := by
    rcases h with rfl | rfl
    · exact zfb_2
    · exact zfb_3
  have e := rg_at (rg_at (rg_at (rg_at k ha) hb) hc) hd
  have e2 := eq_of_beq e
  rw [← e2]
  exact decide_eq_true_iff.symm
theorem mul_lt5 {q a b : Nat} (h : isQ q) (ha : a < q) (hb : b < q) : a * b < 5 := by
  have hq := isQ_le h
  have : a * b ≤ 2 * 2 := Nat.mul_le_mul (by omega) (by omega)
  omega
theorem dq0 {q c : Nat} : dq q c 0 = c / (q * q * q) := rfl
theorem dq1 {q c : Nat} : dq q c 1 = c / (q * q) % q := rfl
theorem dq2 {q c : Nat} : dq q c 2 = c / q % q := rfl
theorem dq3 {q c : Nat} : dq q c 3 = c % q := rfl
theorem s_isZeroForm {q a b : Nat} (h : isQ q) (ha : a < Rq q) (hb : b < Rq q) {Q : Int32 → Prop} (h1 : zrN q a b = true → Q 1) (h0 : zrN q a b = false → Q 0) : w_X1_isZeroForm (nI a) (nI b) (nI q) Q := by
  have hq := isQ_le h
  have hR := Rq_le h
  have n1 : ¬ nI q = 0 := nI_ne0 (by omega) (by omega)
  have q2 : q * q ≤ 3 * 3 := Nat.mul_le_mul (by omega) (by omega)
  have q3 : q * q * q ≤ 9 * 3 := Nat.mul_le_mul (by omega) (by omega)
  have p2 : 0 < q * q := Nat.mul_pos (by omega) (by omega)
  have p3 : 0 < q * q * q := Nat.mul_pos p2 (by omega)
  have l : ∀ c, c < Rq q → ∀ i, i < 4 → dq q c i < q := fun c hc i hi => dq_lt h hc hi
  unfold w_X1_isZeroForm
  simp only [pk_mul]
  have n2 : ¬ nI (q * q) = 0 := nI_ne0 p2 (by omega)
  have n3 : ¬ nI (q * q * q) = 0 := nI_ne0 p3 (by omega)
  refine ⟨n3, n2, n1, n1, n1, n1, n3, n2, n1, n1, n1, n1, n1, ?_⟩
  have dv : ∀ c d : Nat, c < 81 → 0 < d → d < 81 → nI c / nI d = nI (c / d) := fun c d h1 h2 h3 => pk_div (by omega) h2 (by omega)
  have rm : ∀ c, c ≤ 81 → vrem (nI c) (nI q) = nI (c % q) := fun c hc => vrem_nI (by omega) (by omega) (by omega)
  have dl : ∀ c d : Nat, c < 81 → c / d ≤ 81 := fun c d hc => by have := Nat.div_le_self c d; omega
  rw [dv a _ (by omega) p3 (by omega), dv b _ (by omega) p2 (by omega), dv a _ (by omega) p2 (by omega), dv b _ (by omega) p3 (by omega), dv a q (by omega) (by omega) (by omega), dv b q (by omega) (by omega) (by omega)]
  rw [rm _ (dl b (q * q) (by omega)), rm _ (dl a (q * q) (by omega)), rm _ (dl a q (by omega)), rm b (by omega), rm a (by omega), rm _ (dl b q (by omega))]
  rw [← dq0, ← dq0, ← dq1, ← dq1, ← dq2, ← dq2, ← dq3, ← dq3]
  rw [pk_mul, pk_mul, pk_mul, pk_mul]
  have e := zf_q h (mul_lt5 h (l a ha 0 (by omega)) (l b hb 1 (by omega))) (mul_lt5 h (l a ha 1 (by omega)) (l b hb 0 (by omega))) (mul_lt5 h (l a ha 2 (by omega)) (l b hb 3 (by omega))) (mul_lt5 h (l a ha 3 (by omega)) (l b hb 2 (by omega)))
  refine ⟨fun c => ⟨Or.inl rfl, h0 (bool_ff (fun z => c (e.mpr z)))⟩, fun c => ⟨Or.inr rfl, h1 (e.mp c)⟩⟩
theorem s_nearByForm {q row : Nat} (h : isQ q) (hr : row < Rq q) {Q : Int64 → Prop} (k : Q (lN (nbW q row (q * q * q * q - 1) 1 0 0))) : w_X1_nearByForm (nI row) (nI q) Q := by
  have hq := isQ_le h
  have hR := Rq_le h
  have hP := Pq_le h
  have key : ∀ m o p acc, m + o = Rq q → ckP q m o p = true → Q (lN (nbW q row m o p acc)) → ∃ n, w_X1_nearByForm_16 (nI row) (nI q) (nI (Rq q)) Q n (lN acc) (nI p) (nI o) := by
    intro m
    induction m with
    | zero =>
      intro o p acc ho hk hQ
      have : o = Rq q := by omega
      subst this
      exact ⟨1, pk_le (Rq q) (Rq q) (fun _ => hQ) (fun c => by omega)⟩
    | succ m ih =>
      intro o p acc ho hk hQ
      rw [ckP] at hk
      rw [nbW] at hQ
      by_cases c : frs q o = 1
      · rw [if_pos c] at hk hQ
        rw [Bool.and_eq_true, Bool.and_eq_true] at hk
        obtain ⟨hp, -, hk⟩ := hk
        have hp := of_decide_eq_true hp
        obtain ⟨n, hn⟩ := ih (o + 1) (p + 1) _ (by omega) hk hQ
        refine ⟨n + 1, pk_le (Rq q) o (fun d => by omega) (fun _ => s_isFormPoint h (by omega) (fun _ => ⟨fun d => absurd d (by decide), fun _ => s_isZeroForm h hr (by omega) (fun z => ⟨fun d => absurd d (by decide), fun _ => ?_⟩) (fun z => ⟨fun _ => ?_, fun d => absurd rfl d⟩)⟩) (fun d => absurd c d))⟩
        · rw [z, if_pos rfl] at hn
          show w_X1_nearByForm_16 _ _ _ Q n (lN acc ||| vshl 1 (nI p)) (nI p + 1) (nI o + 1)
          rw [vshl_one (by omega), lN_orr, nI_1, nI_1]; exact hn
        · rw [z, if_neg (by simp)] at hn
          show w_X1_nearByForm_16 _ _ _ Q n (lN acc ||| 0) (nI p + 1) (nI o + 1)
          rw [or0, nI_1, nI_1]; exact hn
      · rw [if_neg c] at hk hQ
        obtain ⟨n, hn⟩ := ih (o + 1) p acc (by omega) hk hQ
        refine ⟨n + 1, pk_le (Rq q) o (fun d => by omega) (fun _ => s_isFormPoint h (by omega) (fun d => absurd d c) (fun _ => ⟨fun _ => ?_, fun d => absurd rfl d⟩))⟩
        show w_X1_nearByForm_16 _ _ _ Q n (lN acc) (nI p) (nI o + 1)
        rw [nI_1]; exact hn
  have := key (Rq q - 1) 1 0 0 (by omega) (k1_q h) k
  unfold w_X1_nearByForm
  rw [pk_mul, pk_mul, pk_mul]
  exact this
/-- the form's lines -/
def gF (q : Nat) : Nat → Int64 := fun l => lN (flQ q l)
theorem tb_lt {n P k : Nat} (h : n < 2 ^ P) (hb : n.testBit k = true) : k < P := Classical.byContradiction fun z => by
  have := Nat.testBit_lt_two_pow (show n < 2 ^ k from Nat.lt_of_lt_of_le h (Nat.pow_le_pow_right (by decide) (by omega)))
  rw [this] at hb; cases hb
theorem hs_lNn {n P k : Nat} (h : n < 2 ^ P) (hP : P ≤ 64) : hs (lN n) k = n.testBit k := by
  rw [hs_lN]
  by_cases c : k < 64
  · simp [c]
  · cases hb : n.testBit k
    · simp
    · have := tb_lt h hb
      omega
theorem nl_lt {q p : Nat} (h : isQ q) (hp : p < Pq q) : nlF q p < 2 ^ Pq q := by
  have := rg_at (k2_q h) hp
  rw [Bool.and_eq_true] at this
  exact of_decide_eq_true this.2
theorem pc_lt {q p : Nat} (h : isQ q) (hp : p < Pq q) : pcF q p < Rq q := by
  have := rg_at (k2_q h) hp
  rw [Bool.and_eq_true, Bool.and_eq_true] at this
  exact of_decide_eq_true this.1.2
theorem nl_nb {q p : Nat} (h : isQ q) (hp : p < Pq q) : nbW q (pcF q p) (q * q * q * q - 1) 1 0 0 = nlF q p := by
  have := rg_at (k2_q h) hp
  rw [Bool.and_eq_true, Bool.and_eq_true] at this
  exact eq_of_beq this.1.1
theorem fl_lt {q l : Nat} (h : isQ q) (hl : l < Pq q) : flQ q l < 2 ^ Pq q := by
  have := rg_at (k4_q h) hl
  rw [Bool.and_eq_true, Bool.and_eq_true] at this
  exact of_decide_eq_true this.1.1
theorem fl_in {q l p : Nat} (h : isQ q) (hl : l < Pq q) (hp : p < Pq q) (hb : (flQ q l).testBit p = true) : (nlF q p ||| flQ q l) = nlF q p := by
  have := rg_at (k4_q h) hl
  rw [Bool.and_eq_true, Bool.and_eq_true] at this
  have := rg_at this.1.2 hp
  rw [hb] at this
  simpa using this
theorem fl_ne {q l : Nat} (h : isQ q) (hl : l < Pq q) : ∃ p, p < Pq q ∧ (flQ q l).testBit p = true := by
  have := rg_at (k4_q h) hl
  rw [Bool.and_eq_true] at this
  have h2 := this.2
  apply Classical.byContradiction
  intro z
  have : rg (Pq q) (fun p => !(flQ q l).testBit p) = true := List.all_eq_true.mpr (fun p hp => by
    have hp' := List.mem_range.mp hp
    cases hb : (flQ q l).testBit p
    · rfl
    · exact absurd ⟨p, hp', hb⟩ z)
  rw [this] at h2
  cases h2
theorem gF_ok {q : Nat} (h : isQ q) : gOK (gF q) (Pq q) (Pq q) ∧ gNE (gF q) (Pq q) := by
  have hP := Pq_le h
  refine ⟨fun l hl k hk => ?_, fun l hl => ?_⟩
  · unfold gF at hk
    rw [hs_lNn (fl_lt h hl) (by omega)] at hk
    exact tb_lt (fl_lt h hl) hk
  · obtain ⟨p, -, hp⟩ := fl_ne h hl
    refine ⟨p, ?_⟩
    unfold gF
    rw [hs_lNn (fl_lt h hl) (by omega)]; exact hp
theorem form_ok {q : Nat} (h : isQ q) {kd tg : Int32} : AVok (Pq q, Pq q, kd, tg, gF q) := by
  have hP := Pq_le h
  exact Or.inr ⟨by show Pq q ≤ 45; omega, by show Pq q ≤ 45; omega, (gF_ok h).1, (gF_ok h).2⟩
theorem nrs_gF {q p : Nat} (h : isQ q) (hp : p < Pq q) : nrs (gF q) (Pq q) p = lN (nlF q p) := by
  have hP := Pq_le h
  have key : ∀ L, L ≤ Pq q → nrs (gF q) L p = lN (nrW q p L) := by
    intro L
    induction L with
    | zero => intro _; exact vshl_one (by omega)
    | succ L ih =>
      intro hL
      rw [nrs, nrW, ih (by omega)]
      unfold gF
      rw [hs_lNn (fl_lt h (by omega)) (by omega)]
      split
      · exact lN_orr _ _
      · rfl
  rw [key _ (Nat.le_refl _)]
  have := rg_at (k5_q h) hp
  rw [eq_of_beq this]
