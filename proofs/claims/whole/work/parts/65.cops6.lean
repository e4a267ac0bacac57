/-! count and digest: all six worlds, all four rows -/
theorem sel6 {A : Nat → Prop} {i : Nat} (hi : i < 6) (h : A i) : (nI i = 0 → A 0) ∧ (nI i = 1 → A 1) ∧ (nI i = 2 → A 2) ∧ (nI i = 3 → A 3) ∧ (nI i = 4 → A 4) ∧ (nI i = 5 → A 5) := by
  have e : ∀ k, k < 6 → nI i = nI k → A k := fun k hk z => by rw [← (nI_eq (by omega) (by omega)).mp z]; exact h
  exact ⟨e 0 (by omega), e 1 (by omega), e 2 (by omega), e 3 (by omega), e 4 (by omega), e 5 (by omega)⟩
theorem sel4 {A : Nat → Prop} {i : Nat} (hi : i < 4) (h : A i) : (nI i = 0 → A 0) ∧ (nI i = 1 → A 1) ∧ (nI i = 2 → A 2) ∧ (nI i = 3 → A 3) := by
  have e : ∀ k, k < 4 → nI i = nI k → A k := fun k hk z => by rw [← (nI_eq (by omega) (by omega)).mp z]; exact h
  exact ⟨e 0 (by omega), e 1 (by omega), e 2 (by omega), e 3 (by omega)⟩
section
variable {W : AW} {R : AR} {tw kw gw zw lw : Nat → Int32} {nw sw hw : Nat → (Nat → Int64)} {ow orr : Nat → Nat} {wr rp : Nat → Option Nat} {rs : Nat → Int32} {gr : Nat → (Nat → Int32)}
/-- all six worlds as the class holds them -/
def CWs (W : AW) (tw kw gw zw lw : Nat → Int32) (nw sw hw : Nat → (Nat → Int64)) (wr : Nat → Option Nat) (ow : Nat → Nat) : Prop := AWok W ∧ ∀ j, j < 6 → wr j = some (ow j) ∧ CW (W j) (tw j) (kw j) (gw j) (zw j) (lw j) (nw j) (sw j) (hw j)
theorem CWs_FO (h : CWs W tw kw gw zw lw nw sw hw wr ow) {j : Nat} (hj : j < 6) : FO W (nI j) j wr (ow j) (tw j) (kw j) (gw j) (zw j) (lw j) (nw j) (sw j) (hw j) := ⟨h.1, hj, (h.2 j hj).1, fun i hi e => ((nI_eq (by omega) (by omega)).mp e).symm, (h.2 j hj).2⟩
theorem CWs_t (h : CWs W tw kw gw zw lw nw sw hw wr ow) {j : Nat} (hj : j < 6) : tw j = 0 ↔ vP (W j) = 0 := FO_0 (CWs_FO h hj)
theorem CWs_at (h : CWs W tw kw gw zw lw nw sw hw wr ow) {j : Nat} (hj : j < 6) (h0 : vP (W j) ≠ 0) : CA (W j) (tw j) (kw j) (gw j) (zw j) (lw j) (nw j) (sw j) (hw j) := FO_at (CWs_FO h hj) h0
theorem s_count (h : CWs W tw kw gw zw lw nw sw hw wr ow) (hR : RS R rs) {x : Int32} {Q : Int32 → Prop} (s : sp_count W R x Q) : w_X6_count x (tw 0) (zw 0) (lw 0) (tw 1) (zw 1) (lw 1) (tw 2) (zw 2) (lw 2) (tw 3) (zw 3) (lw 3) (tw 4) (zw 4) (lw 4) (tw 5) (zw 5) (lw 5) rs wr (ow 0) (ow 1) (ow 2) (ow 3) (ow 4) (ow 5) Q := by
  refine ⟨fun c => s.1 ?_, fun c => ⟨fun d => ?_, fun d => s.1 ?_⟩⟩
  · rintro ⟨k, hk, rfl⟩
    exact nI_pos (by omega) c
  rotate_left
  · rintro ⟨k, hk, rfl⟩
    exact d ((nI_leI (b := 3) (by omega) (by decide)).mpr (by omega))
  obtain ⟨k, hk, rfl⟩ := nI_of2 (M := 3) (n := 3) (by decide) c d
  have q := s.2 k (by omega) rfl
  have hv : ∀ j, j < 6 → vP (W j) ≤ 45 ∧ (vP (W j) ≠ 0 → vL (W j) ≤ 45) := fun j hj => by
    rcases h.1 j hj with z | z
    · exact ⟨by omega, fun z2 => absurd z z2⟩
    · exact ⟨z.1, fun _ => z.2.1⟩
  refine ⟨fun c3 => ?_, fun c3 => ?_⟩
  · have k3 : k ≠ 3 := fun z => c3 (by rw [z]; rfl)
    rw [if_neg k3] at q
    refine lpf (fun n j (a : Int32) => w_X6_count_52 (nI k) (tw 0) (zw 0) (lw 0) (tw 1) (zw 1) (lw 1) (tw 2) (zw 2) (lw 2) (tw 3) (zw 3) (lw 3) (tw 4) (zw 4) (lw 4) (tw 5) (zw 5) (lw 5) rs wr (ow 0) (ow 1) (ow 2) (ow 3) (ow 4) (ow 5) Q n a (nI j)) (fun j => nI (cnW W k j)) 6 0 (Nat.zero_le _) (fun n => ?_) (fun n j _ hj ih => ?_)
    · exact pk_le 6 6 (fun _ => q) (fun c => by omega)
    · refine pk_le 6 j (fun c => by omega) (fun _ => ⟨in6 hj, ?_⟩)
      have stp : ∀ y : Int32, y = nI (cnV k (W j)) → w_X6_count_52 (nI k) (tw 0) (zw 0) (lw 0) (tw 1) (zw 1) (lw 1) (tw 2) (zw 2) (lw 2) (tw 3) (zw 3) (lw 3) (tw 4) (zw 4) (lw 4) (tw 5) (zw 5) (lw 5) rs wr (ow 0) (ow 1) (ow 2) (ow 3) (ow 4) (ow 5) Q n (nI (cnW W k j) + y) (nI j + 1) := fun y hy => by
        rw [hy, nI_add, nI_1]; exact ih
      have stp0 : cnV k (W j) = 0 → w_X6_count_52 (nI k) (tw 0) (zw 0) (lw 0) (tw 1) (zw 1) (lw 1) (tw 2) (zw 2) (lw 2) (tw 3) (zw 3) (lw 3) (tw 4) (zw 4) (lw 4) (tw 5) (zw 5) (lw 5) rs wr (ow 0) (ow 1) (ow 2) (ow 3) (ow 4) (ow 5) Q n (nI (cnW W k j)) (nI j + 1) := fun z => by
        have := stp 0 (by rw [z]; rfl)
        rw [Int32.add_zero] at this
        exact this
      rw [cl45 (by omega)]
      have w1 := (h.2 j hj).1
      refine sel6 (A := fun i => wr j = some (ow i) ∧ ((tw i = 0 → w_X6_count_52 (nI k) (tw 0) (zw 0) (lw 0) (tw 1) (zw 1) (lw 1) (tw 2) (zw 2) (lw 2) (tw 3) (zw 3) (lw 3) (tw 4) (zw 4) (lw 4) (tw 5) (zw 5) (lw 5) rs wr (ow 0) (ow 1) (ow 2) (ow 3) (ow 4) (ow 5) Q n (nI (cnW W k j)) (nI j + 1)) ∧ (¬ tw i = 0 → ((¬ nI k = 0 → ((¬ nI k = 1 → (vp_in (nI j) 6 ∧ wr j = some (ow i) ∧ w_X6_count_52 (nI k) (tw 0) (zw 0) (lw 0) (tw 1) (zw 1) (lw 1) (tw 2) (zw 2) (lw 2) (tw 3) (zw 3) (lw 3) (tw 4) (zw 4) (lw 4) (tw 5) (zw 5) (lw 5) rs wr (ow 0) (ow 1) (ow 2) (ow 3) (ow 4) (ow 5) Q n (nI (cnW W k j) + lw i) (nI j + 1))) ∧ (nI k = 1 → (vp_in (nI j) 6 ∧ wr j = some (ow i) ∧ w_X6_count_52 (nI k) (tw 0) (zw 0) (lw 0) (tw 1) (zw 1) (lw 1) (tw 2) (zw 2) (lw 2) (tw 3) (zw 3) (lw 3) (tw 4) (zw 4) (lw 4) (tw 5) (zw 5) (lw 5) rs wr (ow 0) (ow 1) (ow 2) (ow 3) (ow 4) (ow 5) Q n (nI (cnW W k j) + zw i) (nI j + 1))))) ∧ (nI k = 0 → w_X6_count_52 (nI k) (tw 0) (zw 0) (lw 0) (tw 1) (zw 1) (lw 1) (tw 2) (zw 2) (lw 2) (tw 3) (zw 3) (lw 3) (tw 4) (zw 4) (lw 4) (tw 5) (zw 5) (lw 5) rs wr (ow 0) (ow 1) (ow 2) (ow 3) (ow 4) (ow 5) Q n (nI (cnW W k j) + 1) (nI j + 1)))))) hj ?_
      rw [CWs_t h hj]
      refine ⟨w1, fun z => stp0 (by unfold cnV; rw [if_pos z]), fun z => ?_⟩
      obtain ⟨c1, c2, c3', c4, c5, c6, c7, c8, c9, c10, c11, c12, c13⟩ := CWs_at h hj z
      refine ⟨fun k0 => ⟨fun k1 => ⟨in6 hj, w1, stp _ ?_⟩, fun k1 => ⟨in6 hj, w1, stp _ ?_⟩⟩, fun k0 => stp 1 ?_⟩
      · have e0 : k ≠ 0 := fun z => k0 (by rw [z]; rfl)
        have e1 : k ≠ 1 := fun z => k1 (by rw [z]; rfl)
        unfold cnV
        rw [if_neg z, if_neg e0, if_neg e1, if_pos (by omega), c10]
      · have e1 : k = 1 := (nI_eq (b := 1) (by omega) (by decide)).mp k1
        unfold cnV
        rw [if_neg z, if_neg (by omega), if_pos e1, c9]
      · have e0 : k = 0 := (nI_eq (b := 0) (by omega) (by decide)).mp k0
        unfold cnV
        rw [if_neg z, if_pos e0]; rfl
  · have k3 : k = 3 := (nI_eq (b := 3) (by omega) (by decide)).mp c3
    rw [if_pos k3] at q
    refine lpf (fun n j (a : Int32) => w_X6_count_20 (tw 0) (zw 0) (lw 0) (tw 1) (zw 1) (lw 1) (tw 2) (zw 2) (lw 2) (tw 3) (zw 3) (lw 3) (tw 4) (zw 4) (lw 4) (tw 5) (zw 5) (lw 5) rs wr (ow 0) (ow 1) (ow 2) (ow 3) (ow 4) (ow 5) Q n a (nI j)) (fun j => nI (cnR R j)) 4 0 (Nat.zero_le _) (fun n => ?_) (fun n j _ hj ih => ?_)
    · exact pk_le 4 4 (fun _ => q) (fun c => by omega)
    · refine pk_le 4 j (fun c => by omega) (fun _ => ⟨in4 hj, ?_⟩)
      rw [cl45 (by omega), (RS_0 hR hj).1]
      refine ⟨fun z => ?_, fun z => ?_⟩
      · show w_X6_count_20 (tw 0) (zw 0) (lw 0) (tw 1) (zw 1) (lw 1) (tw 2) (zw 2) (lw 2) (tw 3) (zw 3) (lw 3) (tw 4) (zw 4) (lw 4) (tw 5) (zw 5) (lw 5) rs wr (ow 0) (ow 1) (ow 2) (ow 3) (ow 4) (ow 5) Q n (nI (cnR R j) + 1) (nI j + 1)
        rw [nI_1, nI_1]
        have : cnR R (j + 1) = cnR R j + 1 := by unfold cnR; rw [fb_ct_succ]; simp [z]
        rw [this] at ih; exact ih
      · show w_X6_count_20 (tw 0) (zw 0) (lw 0) (tw 1) (zw 1) (lw 1) (tw 2) (zw 2) (lw 2) (tw 3) (zw 3) (lw 3) (tw 4) (zw 4) (lw 4) (tw 5) (zw 5) (lw 5) rs wr (ow 0) (ow 1) (ow 2) (ow 3) (ow 4) (ow 5) Q n (nI (cnR R j) + 0) (nI j + 1)
        rw [nI_1, Int32.add_zero]
        have : cnR R (j + 1) = cnR R j := by unfold cnR; rw [fb_ct_succ]; simp [Classical.not_not.mp z]
        rw [this] at ih; exact ih
theorem s_digest (h : CWs W tw kw gw zw lw nw sw hw wr ow) (hR : RS R rs) (hG : ∀ j, j < 4 → rp j = some (orr j) ∧ RC (R j) (gr j)) {Q : Int64 → Prop} (s : sp_digest W R Q) : w_X6_digest (gr 0) (gr 1) (gr 2) (gr 3) (tw 0) (kw 0) (zw 0) (lw 0) (sw 0) (tw 1) (kw 1) (zw 1) (lw 1) (sw 1) (tw 2) (kw 2) (zw 2) (lw 2) (sw 2) (tw 3) (kw 3) (zw 3) (lw 3) (sw 3) (tw 4) (kw 4) (zw 4) (lw 4) (sw 4) (tw 5) (kw 5) (zw 5) (lw 5) (sw 5) rp rs wr (ow 0) (ow 1) (ow 2) (ow 3) (ow 4) (ow 5) (orr 0) (orr 1) (orr 2) (orr 3) Q := by
  refine lpf (fun n j (a : Int64) => w_X6_digest_6 (gr 0) (gr 1) (gr 2) (gr 3) (tw 0) (kw 0) (zw 0) (lw 0) (sw 0) (tw 1) (kw 1) (zw 1) (lw 1) (sw 1) (tw 2) (kw 2) (zw 2) (lw 2) (sw 2) (tw 3) (kw 3) (zw 3) (lw 3) (sw 3) (tw 4) (kw 4) (zw 4) (lw 4) (sw 4) (tw 5) (kw 5) (zw 5) (lw 5) (sw 5) rp rs wr (ow 0) (ow 1) (ow 2) (ow 3) (ow 4) (ow 5) (orr 0) (orr 1) (orr 2) (orr 3) Q n a (nI j)) (dgW W) 6 0 (Nat.zero_le _) (fun n => ?_) (fun n j _ hj ih => ?_)
  · refine pk_le 6 6 (fun _ => ?_) (fun c => by omega)
    refine lpf (fun n j (a : Int64) => w_X6_digest_31 (gr 0) (gr 1) (gr 2) (gr 3) (tw 0) (kw 0) (zw 0) (lw 0) (sw 0) (tw 1) (kw 1) (zw 1) (lw 1) (sw 1) (tw 2) (kw 2) (zw 2) (lw 2) (sw 2) (tw 3) (kw 3) (zw 3) (lw 3) (sw 3) (tw 4) (kw 4) (zw 4) (lw 4) (sw 4) (tw 5) (kw 5) (zw 5) (lw 5) (sw 5) rp rs wr (ow 0) (ow 1) (ow 2) (ow 3) (ow 4) (ow 5) (orr 0) (orr 1) (orr 2) (orr 3) Q n a (nI j)) (dgR R (dgW W 6)) 4 0 (Nat.zero_le _) (fun n => ?_) (fun n j _ hj ih => ?_)
    · exact pk_le 4 4 (fun _ => s) (fun c => by omega)
    · refine pk_le 4 j (fun c => by omega) (fun _ => ⟨in4 hj, ?_⟩)
      rw [cl45 (by omega)]
      have hb := hR.1 j hj
      obtain ⟨z1, z2, z3⟩ := RS_0 hR hj
      simp only [dgR] at ih
      by_cases c0 : rN (R j) = 0
      · rw [if_pos c0] at ih
        have e : rs j = -1 := by rw [hR.2 j hj, c0]; decide
        rw [e]
        refine ⟨1, in4 hj, ?_⟩
        rw [cl45 (by omega), e]
        refine ⟨fun _ => ?_, fun d => absurd (by decide) d⟩
        rw [nI_1]; exact ih
      · obtain ⟨m, hm⟩ : ∃ n, rN (R j) = n + 1 := ⟨rN (R j) - 1, by omega⟩
        rw [if_neg c0, show rN (R j) - 1 = m by omega] at ih
        have e := z3 m hm
        obtain ⟨w1, w2⟩ := hG j hj
        rw [e]
        refine lpf (fun n i (a : Int64) => w_X6_digest_53 (nI j) (gr 0) (gr 1) (gr 2) (gr 3) (tw 0) (kw 0) (zw 0) (lw 0) (sw 0) (tw 1) (kw 1) (zw 1) (lw 1) (sw 1) (tw 2) (kw 2) (zw 2) (lw 2) (sw 2) (tw 3) (kw 3) (zw 3) (lw 3) (sw 3) (tw 4) (kw 4) (zw 4) (lw 4) (sw 4) (tw 5) (kw 5) (zw 5) (lw 5) (sw 5) rp rs wr (ow 0) (ow 1) (ow 2) (ow 3) (ow 4) (ow 5) (orr 0) (orr 1) (orr 2) (orr 3) _ Q n a (nI i)) (dgI (rV (R j)) (31 * dgR R (dgW W 6) j + (nI m).toInt64)) m 0 (Nat.zero_le _) (fun n' => ?_) (fun n' i _ hi ih2 => ?_)
        · refine ⟨in4 hj, ?_⟩
          rw [cl45 (by omega), e]
          refine pk_le m m (fun _ => ?_) (fun d => by omega)
          rw [nI_1]; exact ih
        · refine ⟨in4 hj, ?_⟩
          rw [cl45 (by omega), e]
          refine pk_le m i (fun d => by omega) (fun _ => ⟨in4 hj, ?_⟩)
          refine sel4 (A := fun q => rp j = some (orr q) ∧ (vp_in (nI i) 12 ∧ (w_X6_digest_53 (nI j) (gr 0) (gr 1) (gr 2) (gr 3) (tw 0) (kw 0) (zw 0) (lw 0) (sw 0) (tw 1) (kw 1) (zw 1) (lw 1) (sw 1) (tw 2) (kw 2) (zw 2) (lw 2) (sw 2) (tw 3) (kw 3) (zw 3) (lw 3) (sw 3) (tw 4) (kw 4) (zw 4) (lw 4) (sw 4) (tw 5) (kw 5) (zw 5) (lw 5) (sw 5) rp rs wr (ow 0) (ow 1) (ow 2) (ow 3) (ow 4) (ow 5) (orr 0) (orr 1) (orr 2) (orr 3) _ Q n' ((31 * dgI (rV (R j)) (31 * dgR R (dgW W 6) j + (nI m).toInt64) i) + ((gr q (nI i).toNatClampNeg)).toInt64) (nI i + 1)))) hj ⟨w1, vp_in_nI (by omega) (by decide), ?_⟩
          rw [cl45 (by omega), w2 m hm i hi, nI_1]
          exact ih2
  · refine pk_le 6 j (fun c => by omega) (fun _ => ⟨in6 hj, ?_⟩)
    rw [cl45 (by omega)]
    have w1 := (h.2 j hj).1
    refine sel6 (A := fun i => wr j = some (ow i) ∧ (w_X5_digestOn (dgW W j) (tw i) (kw i) (zw i) (lw i) (sw i) (fun r => (w_X6_digest_6 (gr 0) (gr 1) (gr 2) (gr 3) (tw 0) (kw 0) (zw 0) (lw 0) (sw 0) (tw 1) (kw 1) (zw 1) (lw 1) (sw 1) (tw 2) (kw 2) (zw 2) (lw 2) (sw 2) (tw 3) (kw 3) (zw 3) (lw 3) (sw 3) (tw 4) (kw 4) (zw 4) (lw 4) (sw 4) (tw 5) (kw 5) (zw 5) (lw 5) (sw 5) rp rs wr (ow 0) (ow 1) (ow 2) (ow 3) (ow 4) (ow 5) (orr 0) (orr 1) (orr 2) (orr 3) Q n r (nI j + 1))))) hj ⟨w1, ?_⟩
    simp only [dgW] at ih
    by_cases c0 : vP (W j) = 0
    · rw [if_pos c0] at ih
      rw [(CWs_t h hj).mpr c0]
      refine s_digestOn0 ?_
      rw [nI_1]; exact ih
    · rw [if_neg c0] at ih
      obtain ⟨c1, c2, c3, c4, c5, c6, c7, c8, c9, c10, c11, c12, c13⟩ := CWs_at h hj c0
      rw [c6, c7, c9, c10]
      refine s_digestOn c3 ?_
      rw [nI_1]
      have dc : ∀ a n, n ≤ vL (W j) → dgF (sw j) a n = dgF (vG (W j)) a n := fun a n => by
        induction n with
        | zero => intro _; rfl
        | succ n ih => intro hn; rw [dgF, dgF, ih (by omega), c11 n (by omega)]
      rw [dc _ _ (Nat.le_refl _)]
      exact ih
end
