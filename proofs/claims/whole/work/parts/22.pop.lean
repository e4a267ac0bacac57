/-! Long.bitCount counts -/
def pf1 (b : Nat) : Nat := b - ((b / 2 ^ 1) &&& 85)
def pf2 (b : Nat) : Nat := ((pf1 b / 2 ^ 0) &&& 51) + ((pf1 b / 2 ^ 2) &&& 51)
def pf3 (b : Nat) : Nat := pf2 b % 16 + pf2 b / 16
theorem pf1_lt : ∀ b, b < 256 → ((b / 2 ^ 1) &&& 85) ≤ b := by decide +kernel
theorem pf1_b : ∀ b, b < 256 → pf1 b < 256 := by decide +kernel
theorem pf2_b : ∀ b, b < 256 → pf2 b < 256 ∧ pf2 b % 16 ≤ 4 ∧ pf2 b / 16 ≤ 4 := by decide +kernel
theorem pf3_b : ∀ b, b < 256 → pf3 b ≤ 8 := by decide +kernel
theorem pf3_ct : ∀ b, b < 256 → fb_ct (fun k => b.testBit k) 8 = pf3 b := by decide +kernel
theorem pm1 : ∀ b, b < 256 → ∀ e, e < 2 ^ 1 → (b / 2 ^ 1 + 256 / 2 ^ 1 * e) % 256 = b / 2 ^ 1 + 256 / 2 ^ 1 * e ∧ ((b / 2 ^ 1 + 256 / 2 ^ 1 * e) &&& 85) = ((b / 2 ^ 1) &&& 85) := by decide +kernel
theorem pm2 : ∀ b, b < 256 → ∀ e, e < 2 ^ 2 → (b / 2 ^ 2 + 256 / 2 ^ 2 * e) % 256 = b / 2 ^ 2 + 256 / 2 ^ 2 * e ∧ ((b / 2 ^ 2 + 256 / 2 ^ 2 * e) &&& 51) = ((b / 2 ^ 2) &&& 51) := by decide +kernel
theorem pm0 : ∀ b, b < 256 → ∀ e, e < 2 ^ 0 → (b / 2 ^ 0 + 256 / 2 ^ 0 * e) % 256 = b / 2 ^ 0 + 256 / 2 ^ 0 * e ∧ ((b / 2 ^ 0 + 256 / 2 ^ 0 * e) &&& 51) = ((b / 2 ^ 0) &&& 51) := by decide +kernel
theorem p15 : ∀ z, z < 256 → z &&& 15 = z % 16 := by decide +kernel
theorem bS_nib {g : Nat → Nat} (hg : ∀ b, b < 256 → g b < 256 ∧ g b % 16 ≤ 4 ∧ g b / 16 ≤ 4) : ∀ k n, (bS g k n + bS g k n / 16) &&& bM 15 k = bS (fun b => g b % 16 + g b / 16) k n
  | 0, _ => by simp [bM, bS]
  | k + 1, n => by
    have hk := bS_nib hg k (n / 256)
    have hm : bS g k (n / 256) % 16 ≤ 4 := by
      cases k with
      | zero => simp [bS]
      | succ k =>
        have := hg (n / 256 % 256) (by omega)
        show (g (n / 256 % 256) + 256 * bS g k (n / 256 / 256)) % 16 ≤ 4
        omega
    have h0 := hg (n % 256) (by omega)
    show (g (n % 256) + 256 * bS g k (n / 256) + (g (n % 256) + 256 * bS g k (n / 256)) / 16) &&& (15 + 256 * bM 15 k) = g (n % 256) % 16 + g (n % 256) / 16 + 256 * bS (fun b => g b % 16 + g b / 16) k (n / 256)
    rw [← hk]
    generalize bS g k (n / 256) = m at hm ⊢
    generalize g (n % 256) = a at h0 ⊢
    rw [show a + 256 * m + (a + 256 * m) / 16 = (a + a / 16 + 16 * (m % 16)) + 256 * (m + m / 16) by omega, and_split _ _ _ _ (by omega) (by decide), p15 _ (by omega)]
    omega
/-- the sum over a number's bytes -/
def bT (f : Nat → Nat) : Nat → Nat → Nat
  | 0, _ => 0
  | k + 1, n => f (n % 256) + bT f k (n / 256)
theorem bT_ct : ∀ k n, fb_ct (fun j => n.testBit j) (8 * k) = bT pf3 k n
  | 0, _ => rfl
  | k + 1, n => by
    rw [show 8 * (k + 1) = 8 + 8 * k by omega, fb_ct_split]
    have e1 : fb_ct (fun j => n.testBit j) 8 = pf3 (n % 256) := by
      rw [← pf3_ct (n % 256) (by omega)]
      refine fb_ct_cong (fun j hj => ?_)
      rw [show n % 256 = n % 2 ^ 8 from rfl, Nat.testBit_mod_two_pow]
      simp [hj]
    have e2 : (fun j => n.testBit (8 + j)) = fun j => (n / 256).testBit j := by
      funext j
      rw [show n / 256 = n / 2 ^ 8 from rfl, Nat.testBit_div_two_pow, Nat.add_comm]
    rw [e1, e2, bT_ct k]
    rfl
theorem bT_num (a0 a1 a2 a3 a4 a5 a6 a7 r1 r2 r3 r4 r5 r6 r7 y : Nat) (h0 : a0 ≤ 8) (h1 : a1 ≤ 8) (h2 : a2 ≤ 8) (h3 : a3 ≤ 8) (h4 : a4 ≤ 8) (h5 : a5 ≤ 8) (h6 : a6 ≤ 8) (h7 : a7 ≤ 8) (e0 : y = a0 + 256 * r1) (e1 : r1 = a1 + 256 * r2) (e2 : r2 = a2 + 256 * r3) (e3 : r3 = a3 + 256 * r4) (e4 : r4 = a4 + 256 * r5) (e5 : r5 = a5 + 256 * r6) (e6 : r6 = a6 + 256 * r7) (e7 : r7 = a7) : (((y + y / 256) + (y + y / 256) / 65536) + ((y + y / 256) + (y + y / 256) / 65536) / 4294967296) % 128 = a0 + (a1 + (a2 + (a3 + (a4 + (a5 + (a6 + (a7 + 0))))))) ∧ y < 1152921504606846976 := by
  have q1 : y / 256 = r1 := by omega
  rw [q1]
  have q2 : (y + r1) / 65536 = r2 + r3 := by
    have f : y + r1 = (a0 + a1 + 256 * (a1 + a2)) + 65536 * (r2 + r3) := by omega
    rw [f]
    clear f q1 e0 e1 e2 e3 e4 e5 e6 e7
    omega
  rw [q2]
  have q3 : (y + r1 + (r2 + r3)) / 4294967296 = r4 + r5 + r6 + r7 := by
    have f : y + r1 + (r2 + r3) = ((a0 + a1 + a2 + a3) + 256 * (a1 + a2 + a3 + a4) + 65536 * (a2 + a3 + a4 + a5) + 16777216 * (a3 + a4 + a5 + a6)) + 4294967296 * (r4 + r5 + r6 + r7) := by omega
    rw [f]
    clear f q1 q2 e0 e1 e2 e3 e4 e5 e6 e7
    generalize r4 + r5 + r6 + r7 = z
    omega
  rw [q3]
  constructor
  · have f : y + r1 + (r2 + r3) + (r4 + r5 + r6 + r7) = (a0 + (a1 + (a2 + (a3 + (a4 + (a5 + (a6 + (a7 + 0)))))))) + 256 * (r1 + r2 + r3 + r4 + r5 + r6 + r7) := by omega
    rw [f]
    clear f q1 q2 q3 e0 e1 e2 e3 e4 e5 e6 e7
    omega
  · clear q1 q2 q3
    omega
theorem bT_fin (n : Nat) : (((bS pf3 8 n + bS pf3 8 n / 256) + (bS pf3 8 n + bS pf3 8 n / 256) / 65536) + ((bS pf3 8 n + bS pf3 8 n / 256) + (bS pf3 8 n + bS pf3 8 n / 256) / 65536) / 4294967296) % 128 = bT pf3 8 n ∧ bS pf3 8 n < 1152921504606846976 := by
  have h : ∀ m : Nat, pf3 (m % 256) ≤ 8 := fun m => pf3_b _ (by omega)
  exact bT_num _ _ _ _ _ _ _ _ (bS pf3 7 (n / 256)) (bS pf3 6 (n / 256 / 256)) (bS pf3 5 (n / 256 / 256 / 256)) (bS pf3 4 (n / 256 / 256 / 256 / 256)) (bS pf3 3 (n / 256 / 256 / 256 / 256 / 256)) (bS pf3 2 (n / 256 / 256 / 256 / 256 / 256 / 256)) (bS pf3 1 (n / 256 / 256 / 256 / 256 / 256 / 256 / 256)) _ (h n) (h _) (h _) (h _) (h _) (h _) (h _) (h _) rfl rfl rfl rfl rfl rfl rfl (by show _ + 256 * 0 = _; omega)
theorem vushr_lN {n k : Nat} (hn : n < 2 ^ 64) (hk : k < 64) : vushr (lN n) (nI k) = lN (n / 2 ^ k) := by
  unfold vushr
  exact wb_shr hn hk
theorem pc1 : (6148914691236517205 : Int64) = lN (bM 85 8) := by decide +kernel
theorem pc2 : (3689348814741910323 : Int64) = lN (bM 51 8) := by decide +kernel
theorem pc3 : (1085102592571150095 : Int64) = lN (bM 15 8) := by decide +kernel
theorem bS_lt {f : Nat → Nat} (h : ∀ b, b < 256 → f b < 256) : ∀ k n, bS f k n < 256 ^ k
  | 0, _ => Nat.one_pos
  | k + 1, n => by
    have h1 := bS_lt h k (n / 256)
    have h2 := h (n % 256) (by omega)
    rw [Nat.pow_succ]
    show f (n % 256) + 256 * bS f k (n / 256) < _
    omega
theorem p256 : 256 ^ 8 = 2 ^ 64 := by decide +kernel
theorem pb2 (n : Nat) : bS pf2 8 n < 2 ^ 64 := by
  have h := bS_lt (f := pf2) (fun b hb => (pf2_b b hb).1) 8 n
  rw [p256] at h
  exact h
theorem s_bitCount {x : Int64} {Q : Int32 → Prop} (h : Q (nI (pop x))) : w_J13_bitCount_95d88 x Q := by
  obtain ⟨n, hn, rfl⟩ := wb_of x
  have bnd : ∀ m k, m / 2 ^ k ≤ m := fun m k => Nat.div_le_self _ _
  have hid : bS (fun b => b) 8 n = n := bS_id 8 n (by rw [p256]; exact hn)
  have m1 := bS_mask (s := 1) (c := 85) (by decide) pm1 (by decide) 8 n
  have n1 : n - ((n / 2 ^ 1) &&& bM 85 8) = bS pf1 8 n := by
    have e : n - ((n / 2 ^ 1) &&& bM 85 8) = bS (fun b => b) 8 n - bS (fun b => (b / 2 ^ 1) &&& 85) 8 n := by rw [m1, hid]
    rw [e, bS_sub pf1_lt]
    rfl
  have l1 : ((n / 2 ^ 1) &&& bM 85 8) ≤ n := by
    have := bS_le pf1_lt 8 n
    rw [m1]
    rw [hid] at this
    exact this
  have hb1 : bS pf1 8 n < 2 ^ 64 := by omega
  have m2 := bS_mask (s := 2) (c := 51) (by decide) pm2 (by decide) 8 (bS pf1 8 n)
  have m0 := bS_mask (s := 0) (c := 51) (by decide) pm0 (by decide) 8 (bS pf1 8 n)
  rw [bS_comp pf1_b] at m2 m0
  have n2 : (bS pf1 8 n &&& bM 51 8) + ((bS pf1 8 n / 2 ^ 2) &&& bM 51 8) = bS pf2 8 n := by
    rw [show bS pf1 8 n &&& bM 51 8 = (bS pf1 8 n / 2 ^ 0) &&& bM 51 8 by simp, m0, m2, bS_add]
    rfl
  have n3 := bS_nib pf2_b 8 n
  have n3 : (bS pf2 8 n + bS pf2 8 n / 2 ^ 4) &&& bM 15 8 = bS pf3 8 n := n3
  have hb2 : bS pf2 8 n < 2 ^ 64 := pb2 n
  obtain ⟨f1, f2⟩ := bT_fin n
  unfold w_J13_bitCount_95d88
  rw [show (1 : Int32) = nI 1 from rfl, show (2 : Int32) = nI 2 from rfl, show (4 : Int32) = nI 4 from rfl, show (8 : Int32) = nI 8 from rfl, show (16 : Int32) = nI 16 from rfl, show (32 : Int32) = nI 32 from rfl, pc1, pc2, pc3]
  have q1 : lN n - (vushr (lN n) (nI 1) &&& lN (bM 85 8)) = lN (bS pf1 8 n) := by
    rw [vushr_lN hn (by decide), fb_andL, lN_sub l1, n1]
  intro y1 e1 y2 e2 y3 e3
  have g1 : y1 = lN (bS pf2 8 n) := by
    rw [e1, q1, vushr_lN hb1 (by decide), fb_andL, fb_andL, lN_add, n2]
  have g2 : y2 = lN (bS pf3 8 n + bS pf3 8 n / 256) := by
    rw [e2, g1, vushr_lN hb2 (by decide), lN_add, fb_andL, n3, vushr_lN (by omega) (by decide), lN_add]
  have hz : bS pf3 8 n + bS pf3 8 n / 256 < 2 ^ 62 := by omega
  have g3 : y3 = lN (((bS pf3 8 n + bS pf3 8 n / 256) + (bS pf3 8 n + bS pf3 8 n / 256) / 65536) + ((bS pf3 8 n + bS pf3 8 n / 256) + (bS pf3 8 n + bS pf3 8 n / 256) / 65536) / 4294967296) := by
    rw [e3, g2, vushr_lN (by omega) (by decide), lN_add, vushr_lN (by omega) (by decide), lN_add]
  have g4 : y3.toInt32 &&& 127 = nI (bT pf3 8 n) := by
    rw [g3, lN_i, show (127 : Int32) = nI (2 ^ 7 - 1) from rfl, fa_mask]
    exact congrArg nI f1
  rw [g4]
  have g5 : bT pf3 8 n = pop (lN n) := by
    rw [← bT_ct]
    refine fb_ct_cong (fun k hk => ?_)
    rw [hs_lN]
    simp; omega
  rw [g5]
  exact h
theorem pop_cong {x y : Int64} (h : ∀ k, k < 64 → hs x k = hs y k) : pop x = pop y := by rw [hs_ext h]
theorem pop_45 {x : Int64} (h : ∀ k, 45 ≤ k → hs x k = false) : pop x = fb_ct (hs x) 45 := by
  unfold pop
  rw [show 64 = 45 + 19 from rfl, fb_ct_split]
  have e : fb_ct (fun k => hs x (45 + k)) 19 = 0 := fb_ct_zero.mpr (fun k _ => h _ (by omega))
  rw [e]
  rfl
theorem m_bits {x : Int64} (hx : ∀ k, 45 ≤ k → hs x k = false) {Q : Int32 → Prop} (h : Q (nI (pop x))) : w_X7_bits x Q := by
  rw [pop_45 hx] at h
  have key : ∀ m i, i + m = 45 → w_X7_bits_4 x Q (m + 1) (nI (fb_ct (hs x) i)) (nI i) := by
    intro m
    induction m with
    | zero =>
      intro i hi
      have : i = 45 := by omega
      subst this
      exact ⟨fun _ => h, fun z => absurd (by decide) z⟩
    | succ m ih =>
      intro i hi
      refine pk_le 45 i (fun c => by omega) (fun _ => ?_)
      have e := ih (i + 1) (by omega)
      rw [hs_shr (by omega)]
      rw [fb_ct_succ] at e
      rw [nI_1]
      cases hb : hs x i
      · rw [hb] at e
        rw [show (if false = true then (1 : Int64) else 0).toInt32 = 0 from by decide, Int32.add_zero]
        exact e
      · rw [hb] at e
        rw [show (if true = true then (1 : Int64) else 0).toInt32 = 1 from by decide, nI_1]
        exact e
  exact ⟨46, key 45 0 rfl⟩
