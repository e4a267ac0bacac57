/-! sets in longs -/
/-- bit k of a set -/
def hs (x : Int64) (k : Nat) : Bool := x.toBitVec.getLsbD k
theorem hs_ext {x y : Int64} (h : ∀ k, k < 64 → hs x k = hs y k) : x = y := by
  apply wb_inj
  apply BitVec.eq_of_getLsbD_eq
  intro i hi
  exact h i hi
theorem hs_or (x y : Int64) (k : Nat) : hs (x ||| y) k = (hs x k || hs y k) := by
  unfold hs; rw [Int64.toBitVec_or, BitVec.getLsbD_or]
theorem hs_and (x y : Int64) (k : Nat) : hs (x &&& y) k = (hs x k && hs y k) := by
  unfold hs; rw [Int64.toBitVec_and, BitVec.getLsbD_and]
theorem hs_big {x : Int64} {k : Nat} (h : 64 ≤ k) : hs x k = false := BitVec.getLsbD_of_ge _ _ h
theorem hs_m1 {k : Nat} (hk : k < 64) : hs (-1) k = true := by
  have e : (-1 : Int64).toBitVec = BitVec.allOnes 64 := by decide
  unfold hs
  rw [e, BitVec.getLsbD_allOnes]
  simp [hk]
theorem hs_not (x : Int64) {k : Nat} (hk : k < 64) : hs (x ^^^ (-1)) k = !hs x k := by
  have h := hs_m1 hk
  unfold hs at *
  rw [Int64.toBitVec_xor, BitVec.getLsbD_xor, h]
  cases x.toBitVec.getLsbD k <;> rfl
theorem hs_0 (k : Nat) : hs 0 k = false := by
  unfold hs
  have e : (0 : Int64).toBitVec = 0#64 := by decide
  rw [e]; simp
theorem hs_lN (n k : Nat) : hs (lN n) k = (decide (k < 64) && n.testBit k) := by
  unfold hs
  rw [wb_tb, BitVec.getLsbD_ofNat]
theorem one_lN : (1 : Int64) = lN 1 := by decide
theorem vshl_one {k : Nat} (hk : k < 64) : vshl 1 (nI k) = lN (2 ^ k) := by
  unfold vshl
  rw [one_lN, wb_shl 1 hk, Nat.one_mul]
theorem hs_one {k : Nat} (hk : k < 64) (j : Nat) : hs (vshl 1 (nI k)) j = decide (j = k) := by
  rw [vshl_one hk, hs_lN, Nat.testBit_two_pow]
  by_cases h : j = k
  · subst h; simp [hk]
  · simp [h, Ne.symm h]
/-- all below k -/
def blw (k : Nat) : Int64 := lN (2 ^ k - 1)
theorem vshl_below {k : Nat} (hk : k < 64) : vshl 1 (nI k) - 1 = blw k := by
  rw [vshl_one hk, one_lN, lN_sub (Nat.one_le_two_pow)]
  rfl
theorem hs_blw {k : Nat} (hk : k < 64) (j : Nat) : hs (blw k) j = decide (j < k) := by
  unfold blw
  rw [hs_lN, Nat.testBit_two_pow_sub_one]
  by_cases h : j < k
  · simp [h]; omega
  · simp [h]
theorem lgc (x y : Int64) : lg_cmp x y = 0 ↔ x = y := by
  unfold lg_cmp
  by_cases h1 : x > y
  · rw [if_pos h1]
    constructor
    · intro h; exact absurd h (by decide)
    · intro h; subst h; exact absurd h1 (by simp [Int64.lt_irrefl])
  · rw [if_neg h1]
    by_cases h2 : x = y
    · simp [h2]
    · rw [if_neg h2]
      constructor
      · intro h; exact absurd h (by decide)
      · intro h; exact absurd h h2
theorem hs_ushr {x : Int64} {k : Nat} (hk : k < 64) : (vushr x (nI k) &&& 1) = 0 ↔ hs x k = false := by
  unfold vushr hs
  rw [wb_cu k hk]
  exact ts_bit hk (u_tn (by omega))
theorem hs_shr {x : Int64} {k : Nat} (hk : k < 64) : (vshr x (nI k) &&& 1) = if hs x k then 1 else 0 := by
  unfold vshr
  rw [wb_c k hk]
  apply wb_inj
  rw [Int64.toBitVec_and, Int64.toBitVec_shiftRight, wb_tb, wb_sm k hk]
  apply BitVec.eq_of_getLsbD_eq
  intro i hi
  have e1 : (1 : Int64).toBitVec = 1#64 := by decide
  rw [e1, BitVec.getLsbD_and]
  by_cases h0 : i = 0
  · subst h0
    have h2 : (BitVec.ofNat 64 k).toNat = k := by rw [BitVec.toNat_ofNat, Nat.mod_eq_of_lt (by omega)]
    rw [BitVec.sshiftRight_eq', BitVec.getLsbD_sshiftRight, h2]
    cases hb : hs x k
    · unfold hs at hb
      have hb' : x.toBitVec[k] = false := by rw [← BitVec.getLsbD_eq_getElem]; exact hb
      simp [hk, hb']
    · unfold hs at hb
      have hb' : x.toBitVec[k] = true := by rw [← BitVec.getLsbD_eq_getElem]; exact hb
      simp [hk, hb', e1]
  · have h1 : (1#64).getLsbD i = false := by
      rw [BitVec.getLsbD_one]; simp [h0]
    rw [h1, Bool.and_false]
    cases hb : hs x k
    · simp
    · simp [e1, h1]
/-- has, of the class and of the reference -/
theorem s_has {x : Int64} {k : Nat} (hk : k < 64) {Q : Int32 → Prop} (ht : hs x k = true → Q 1) (hf : hs x k = false → Q 0) : w_X6_has x (nI k) Q := by
  unfold w_X6_has w_X6_has_15
  rw [lgc, hs_ushr hk]
  cases hb : hs x k
  · exact ⟨fun _ => ⟨Or.inl rfl, hf hb⟩, fun h => absurd rfl h⟩
  · exact ⟨fun h => (by cases h), fun _ => ⟨Or.inr rfl, ht hb⟩⟩
theorem m_has {x : Int64} {k : Nat} (hk : k < 64) {Q : Int32 → Prop} (ht : hs x k = true → Q 1) (hf : hs x k = false → Q 0) : w_X7_has x (nI k) Q := by
  unfold w_X7_has w_X7_has_15
  rw [lgc, hs_shr hk]
  cases hb : hs x k
  · exact ⟨fun _ => ⟨Or.inl rfl, hf hb⟩, fun h => absurd h (by decide)⟩
  · exact ⟨fun h => absurd rfl h, fun _ => ⟨Or.inr rfl, ht hb⟩⟩
theorem s_below {k : Nat} (hk : k < 64) {Q : Int64 → Prop} (h : Q (blw k)) : w_X6_below (nI k) Q := by
  unfold w_X6_below
  rw [vshl_below hk]
  exact h

/-! how many are in a set: Long.bitCount, and the reference's count -/
/-- how many -/
def pop (x : Int64) : Nat := fb_ct (hs x) 64
theorem pop_le (x : Int64) : pop x ≤ 64 := fb_ct_le _ _
/-- a number's bytes, each turned by f -/
def bS (f : Nat → Nat) : Nat → Nat → Nat
  | 0, _ => 0
  | k + 1, n => f (n % 256) + 256 * bS f k (n / 256)
theorem bS_id : ∀ (k n : Nat), n < 256 ^ k → bS (fun b => b) k n = n
  | 0, n, h => by
    simp at h
    simp [bS, h]
  | k + 1, n, h => by
    have h1 : n / 256 < 256 ^ k := by
      rw [Nat.pow_succ] at h
      exact Nat.div_lt_of_lt_mul (by omega)
    show n % 256 + 256 * bS (fun b => b) k (n / 256) = n
    rw [bS_id k _ h1]
    omega
theorem bS_add (f g : Nat → Nat) : ∀ k n, bS f k n + bS g k n = bS (fun b => f b + g b) k n
  | 0, _ => rfl
  | k + 1, n => by
    show f (n % 256) + 256 * bS f k (n / 256) + (g (n % 256) + 256 * bS g k (n / 256)) = f (n % 256) + g (n % 256) + 256 * bS (fun b => f b + g b) k (n / 256)
    rw [← bS_add f g k]
    omega
theorem bS_le {f g : Nat → Nat} (h : ∀ b, b < 256 → f b ≤ g b) : ∀ k n, bS f k n ≤ bS g k n
  | 0, _ => Nat.le_refl _
  | k + 1, n => by
    have h1 := bS_le h k (n / 256)
    have h2 := h (n % 256) (by omega)
    show f (n % 256) + 256 * bS f k (n / 256) ≤ g (n % 256) + 256 * bS g k (n / 256)
    omega
theorem bS_cong {f g : Nat → Nat} (h : ∀ b, b < 256 → f b = g b) : ∀ k n, bS f k n = bS g k n
  | 0, _ => rfl
  | k + 1, n => by
    show f (n % 256) + 256 * bS f k (n / 256) = g (n % 256) + 256 * bS g k (n / 256)
    rw [bS_cong h k, h (n % 256) (by omega)]
theorem bS_sub {f g : Nat → Nat} (h : ∀ b, b < 256 → g b ≤ f b) (k n : Nat) : bS f k n - bS g k n = bS (fun b => f b - g b) k n := by
  have h1 := bS_add (fun b => f b - g b) g k n
  have h2 : bS (fun b => f b - g b + g b) k n = bS f k n := bS_cong (fun b hb => by have := h b hb; omega) k n
  omega
theorem bS_comp {f g : Nat → Nat} (h : ∀ b, b < 256 → f b < 256) : ∀ k n, bS g k (bS f k n) = bS (fun b => g (f b)) k n
  | 0, _ => rfl
  | k + 1, n => by
    have h1 := h (n % 256) (by omega)
    show g ((f (n % 256) + 256 * bS f k (n / 256)) % 256) + 256 * bS g k ((f (n % 256) + 256 * bS f k (n / 256)) / 256) = g (f (n % 256)) + 256 * bS (fun b => g (f b)) k (n / 256)
    rw [show (f (n % 256) + 256 * bS f k (n / 256)) % 256 = f (n % 256) by omega, show (f (n % 256) + 256 * bS f k (n / 256)) / 256 = bS f k (n / 256) by omega, bS_comp h k]
/-- a mask of k like bytes -/
def bM (c : Nat) : Nat → Nat
  | 0 => 0
  | k + 1 => c + 256 * bM c k
theorem and_split (a b c d : Nat) (ha : a < 256) (hc : c < 256) : (a + 256 * b) &&& (c + 256 * d) = (a &&& c) + 256 * (b &&& d) := by
  have h1 : (a &&& c) < 256 := Nat.lt_of_le_of_lt Nat.and_le_left ha
  apply Nat.eq_of_testBit_eq
  intro i
  rw [Nat.testBit_and]
  have e : ∀ x y : Nat, x < 256 → (x + 256 * y).testBit i = if i < 8 then x.testBit i else y.testBit (i - 8) := fun x y hx => by
    rw [Nat.add_comm x, show 256 * y = 2 ^ 8 * y from rfl, Nat.testBit_two_pow_mul_add y hx]
  rw [e a b ha, e c d hc, e _ _ h1]
  by_cases hi : i < 8
  · simp [hi]
  · simp [hi]
theorem bS_mask {s c : Nat} (hc : c < 256) (hcs : ∀ b, b < 256 → ∀ e, e < 2 ^ s → (b / 2 ^ s + 256 / 2 ^ s * e) % 256 = b / 2 ^ s + 256 / 2 ^ s * e ∧ ((b / 2 ^ s + 256 / 2 ^ s * e) &&& c) = ((b / 2 ^ s) &&& c)) (hd : 2 ^ s * (256 / 2 ^ s) = 256) : ∀ k n, (n / 2 ^ s) &&& bM c k = bS (fun b => (b / 2 ^ s) &&& c) k n
  | 0, _ => by simp [bM, bS]
  | k + 1, n => by
    have hp : 0 < 2 ^ s := Nat.two_pow_pos s
    obtain ⟨p1, hp1⟩ : ∃ p, p = 2 ^ s := ⟨_, rfl⟩
    obtain ⟨q1, hq1⟩ : ∃ q, q = 256 / 2 ^ s := ⟨_, rfl⟩
    have h0 := hcs (n % 256) (by omega) (n / 256 % 2 ^ s) (Nat.mod_lt _ hp)
    have hk := bS_mask hc hcs hd k (n / 256)
    rw [← hp1] at hp h0 hd hk ⊢
    rw [← hp1] at hq1
    rw [← hq1] at h0 hd
    have e1 : n / p1 = (n % 256 / p1 + q1 * (n / 256 % p1)) + 256 * (n / 256 / p1) := by
      have e2 : n = p1 * (n % 256 / p1 + q1 * (n / 256 % p1) + 256 * (n / 256 / p1)) + n % 256 % p1 := by
        have a1 := Nat.div_add_mod n 256
        have a2 := Nat.div_add_mod (n / 256) p1
        have a3 := Nat.div_add_mod (n % 256) p1
        have a4 : p1 * (n % 256 / p1 + q1 * (n / 256 % p1) + 256 * (n / 256 / p1)) = p1 * (n % 256 / p1) + (p1 * q1) * (n / 256 % p1) + 256 * (p1 * (n / 256 / p1)) := by
          rw [Nat.mul_add, Nat.mul_add, Nat.mul_assoc, Nat.mul_left_comm p1 256]
        rw [a4, hd]
        omega
      have e3 : n % 256 % p1 < p1 := Nat.mod_lt _ hp
      generalize n % 256 / p1 + q1 * (n / 256 % p1) + 256 * (n / 256 / p1) = z at e2 ⊢
      generalize n % 256 % p1 = r at e2 e3
      rw [e2, Nat.mul_add_div hp, Nat.div_eq_of_lt e3, Nat.add_zero]
    rw [e1]
    show _ &&& (c + 256 * bM c k) = ((n % 256 / p1) &&& c) + 256 * bS (fun b => (b / p1) &&& c) k (n / 256)
    have h3 : n % 256 / p1 + q1 * (n / 256 % p1) < 256 := by
      rw [← h0.1]; exact Nat.mod_lt _ (by decide)
    rw [and_split _ _ _ _ h3 hc, h0.2, hk]
