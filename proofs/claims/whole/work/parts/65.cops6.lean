/-! count and digest: all six worlds, all four rows -/
theorem sel6 {A : Nat → Prop} {i : Nat} (hi : i < 6) (h : A i) : (nI i = 0 → A 0) ∧ (nI i = 1 → A 1) ∧ (nI i = 2 → A 2) ∧ (nI i = 3 → A 3) ∧ (nI i = 4 → A 4) ∧ (nI i = 5 → A 5) := by
  have e : ∀ k, k < 6 → nI i = nI k → A k := fun k hk z => by rw [← (nI_eq (by omega) (by omega)).mp z]; exact h
  exact ⟨e 0 (by omega), e 1 (by omega), e 2 (by omega), e 3 (by omega), e 4 (by omega), e 5 (by omega)⟩
theorem sel4 {A : Nat → Prop} {i : Nat} (hi : i < 4) (h : A i) : (nI i = 0 → A 0) ∧ (nI i = 1 → A 1) ∧ (nI i = 2 → A 2) ∧ (nI i = 3 → A 3) := by
  have e : ∀ k, k < 4 → nI i = nI k → A k := fun k hk z => by rw [← (nI_eq (by omega) (by omega)).mp z]; exact h
  exact ⟨e 0 (by omega), e 1 (by omega), e 2 (by omega), e 3 (by omega)⟩
section
variable {W : AW} {R : AR} {tw kw gw zw lw : Nat → Int32} {nw sw hw : Nat → (Nat → Int64)} {ow orr : Nat → Nat} {wr rp : Nat → Option Nat} {rs : Nat → Int32} {gr : Nat → (Nat → Int32)}
/-- all six worlds as the class holds them -/
def CWs (W : AW) (tw kw gw zw lw : Nat → Int32) (nw sw hw : Nat → (Nat → Int64)) (wr : Nat → Option Nat) (ow : Nat → Nat) : Prop := AWok W ∧ ∀ j, j < 6 → wr j = some (ow j) ∧ CW (W j) (tw j) (kw j) (gw j) (zw j) (lw j) (nw j) (sw j) (hw j)
theorem CWs_FO (h : CWs W tw kw gw zw lw nw sw hw wr ow) {j : Nat} (hj : j < 6) : FO W (nI j) j wr (ow j) (tw j) (kw j) (gw j) (zw j) (lw j) (nw j) (sw j) (hw j) := ⟨h.1, hj, (h.2 j hj).1, fun i hi e => ((nI_eq (by omega) (by omega)).mp e).symm, (h.2 j hj).2⟩
theorem CWs_t (h : CWs W tw kw gw zw lw nw sw hw wr ow) {j : Nat} (hj : j < 6) : tw j = 0 ↔ vP (W j) = 0 := FO_0 (CWs_FO h hj)
theorem CWs_at (h : CWs W tw kw gw zw lw nw sw hw wr ow) {j : Nat} (hj : j < 6) (h0 : vP (W j) ≠ 0) : CA (W j) (tw j) (kw j) (gw j) (zw j) (lw j) (nw j) (sw j) (hw j) := FO_at (CWs_FO h hj) h0
theorem s_count (h : CWs W tw kw gw zw lw nw sw hw wr ow) (hR : RS R rs) {x : Int32} {Q : Int32 → Prop} (s : sp_count W R x Q) : w_X6_count x (tw 0) (zw 0) (lw 0) (tw 1) (zw 1) (lw 1) (tw 2) (zw 2) (lw 2) (tw 3) (zw 3) (lw 3) (tw 4) (zw 4) (lw 4) (tw 5) (zw 5) (lw 5) rs wr (ow 0) (ow 1) (ow 2) (ow 3) (ow 4) (ow 5) Q := by
  refine ⟨fun c => s.1 ?_, fun c => ⟨fun d => ?_, fun d => s.1 ?_⟩⟩
  all_goals sorry
end
