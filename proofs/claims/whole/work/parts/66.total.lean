/-! every call has an answer: for each call's rule there is one outcome that gives it -/
def Tot {α : Type} (F : (α → Prop) → Prop) : Prop := ∃ o, ∀ P : α → Prop, P o → F P
section
variable {α : Type}
theorem tt_r (o : α) : Tot (fun P : α → Prop => P o) := ⟨o, fun _ h => h⟩
theorem tt_c {c : Prop} {A B : (α → Prop) → Prop} (a : ¬ c → Tot A) (b : c → Tot B) : Tot (fun P => (¬ c → A P) ∧ (c → B P)) := by
  by_cases h : c
  · obtain ⟨o, k⟩ := b h
    exact ⟨o, fun P p => ⟨fun z => absurd h z, fun _ => k P p⟩⟩
  · obtain ⟨o, k⟩ := a h
    exact ⟨o, fun P p => ⟨fun _ => k P p, fun z => absurd z h⟩⟩
theorem tt_c' {c : Prop} {A B : (α → Prop) → Prop} (a : ¬ c → Tot A) (b : c → Tot B) : Tot (fun P => (c → B P) ∧ (¬ c → A P)) := by
  by_cases h : c
  · obtain ⟨o, k⟩ := b h
    exact ⟨o, fun P p => ⟨fun _ => k P p, fun z => absurd h z⟩⟩
  · obtain ⟨o, k⟩ := a h
    exact ⟨o, fun P p => ⟨fun z => absurd z h, fun _ => k P p⟩⟩
theorem tt_n {x : Int32} {N : Nat} (hN : N < 2 ^ 31) {A : (α → Prop) → Prop} {B : Nat → (α → Prop) → Prop} (a : Tot A) (b : ∀ j, j < N → x = nI j → Tot (B j)) : Tot (fun P => (¬ num x N → A P) ∧ ∀ j, j < N → x = nI j → B j P) := by
  by_cases h : num x N
  · obtain ⟨j, hj, e⟩ := id h
    obtain ⟨o, k⟩ := b j hj e
    exact ⟨o, fun P p => ⟨fun z => absurd h z, fun j' hj' e' => num_1 hN hj hj' e e' ▸ k P p⟩⟩
  · obtain ⟨o, k⟩ := a
    exact ⟨o, fun P p => ⟨fun _ => k P p, fun j hj e => absurd ⟨j, hj, e⟩ h⟩⟩
theorem tt_n' {x : Int32} {N : Nat} (hN : N < 2 ^ 31) {A : (α → Prop) → Prop} {B : Nat → (α → Prop) → Prop} (a : Tot A) (b : ∀ j, j < N → x = nI j → Tot (B j)) : Tot (fun P => (∀ j, j < N → x = nI j → B j P) ∧ (¬ num x N → A P)) := by
  obtain ⟨o, k⟩ := tt_n (x := x) hN a b
  exact ⟨o, fun P p => ⟨(k P p).2, (k P p).1⟩⟩
theorem tt_and {a b : Prop} {A : (α → Prop) → Prop} {B : (α → Prop) → Prop} (h : ¬ (a ∧ b) → Tot A) (k : a → b → Tot B) : Tot (fun P => (¬ (a ∧ b) → A P) ∧ (a → b → B P)) := by
  obtain ⟨o, q⟩ := tt_c (c := a ∧ b) h (fun z => k z.1 z.2)
  exact ⟨o, fun P p => ⟨(q P p).1, fun z w => (q P p).2 ⟨z, w⟩⟩⟩
variable {W : AW} {R : AR} {x fd : Int32} {fs : Nat → Int32}
theorem tt_lk {Qb : (α → Prop) → QF} {K : (α → Prop) → Nat → Prop} (h1 : ∀ r fd fs, Tot (fun P => Qb P r fd fs)) (h2 : ∀ j, j < 6 → x = nI j → vP (W j) ≠ 0 → Tot (fun P => K P j)) : Tot (fun P => lk W x fd fs (Qb P) (K P)) :=
  tt_n (by decide) (h1 _ _ _) (fun j hj e => tt_c' (c := vP (W j) = 0) (fun z => h2 j hj e z) (fun _ => h1 _ _ _))
theorem tt_lkR {Qb : (α → Prop) → QF} {K : (α → Prop) → Nat → Nat → Prop} (h1 : ∀ r fd fs, Tot (fun P => Qb P r fd fs)) (h2 : ∀ j n, j < 4 → x = nI j → rN (R j) = n + 1 → Tot (fun P => K P j n)) : Tot (fun P => lkR R x fd fs (Qb P) (K P)) :=
  tt_n (by decide) (h1 _ _ _) (fun j hj e => by
    by_cases z : rN (R j) = 0
    · obtain ⟨o, k⟩ := h1 (-3) 1 (fnd fs 1)
      exact ⟨o, fun P p => ⟨fun _ => k P p, fun n hn => absurd (z.symm.trans hn) (by omega)⟩⟩
    · obtain ⟨n, hn⟩ := Nat.exists_eq_succ_of_ne_zero z
      obtain ⟨o, k⟩ := h2 j n hj e hn
      exact ⟨o, fun P p => ⟨fun q => absurd q z, fun m hm => by
        have : n = m := by omega
        exact this ▸ k P p⟩⟩)
end
abbrev oF : Type := Int32 × Int32 × (Nat → Int32)
abbrev pF (P : oF → Prop) : QF := fun r fd fs => P (r, fd, fs)
abbrev oA : Type := Int32 × Int32 × Int64 × (Nat → Int32)
abbrev pA (P : oA → Prop) : QA := fun r fd a fs => P (r, fd, a, fs)
abbrev oW : Type := Int32 × Int32 × (Nat → Int32) × AW
abbrev pW (P : oW → Prop) : QW4 := fun r fd fs W => P (r, fd, fs, W)
abbrev oG : Type := Int32 × AW
abbrev pG (P : oG → Prop) : Int32 → AW → Prop := fun r W => P (r, W)
abbrev oR : Type := Int32 × Int32 × (Nat → Int32) × AR
abbrev pR (P : oR → Prop) : QR := fun r fd fs R => P (r, fd, fs, R)
abbrev oT : Type := Int32 × Int32 × Int32 × Int64 × (Nat → Int32)
abbrev pT (P : oT → Prop) : QT := fun r fd tr a fs => P (r, fd, tr, a, fs)
abbrev oK : Type := Int32 × Int32 × Int32 × (Nat → Int32) × SV
abbrev pK (P : oK → Prop) : QK := fun r fd tr fs S => P (r, fd, tr, fs, S)
section
variable {W : AW} {R : AR} {x fd : Int32} {fs : Nat → Int32}
theorem vP_le (h : AWok W) {j : Nat} (hj : j < 6) : vP (W j) ≤ 45 := by
  rcases h j hj with c | c
  · omega
  · exact c.1
theorem vL_le (h : AWok W) {j : Nat} (hj : j < 6) (z : vP (W j) ≠ 0) : vL (W j) ≤ 45 := by
  rcases h j hj with c | c
  · exact absurd c z
  · exact c.2.1
theorem t_drop : Tot (fun P => sp_drop W x fd fs (pW P)) := tt_lk (fun _ _ _ => tt_r _) (fun _ _ _ _ => tt_r _)
theorem t_told {wh : Int32} : Tot (fun P => sp_told W x wh fd fs (pF P)) := tt_n (by decide) (tt_r _) (fun k _ _ => tt_lk (fun _ _ _ => tt_r _) (fun _ _ _ _ => tt_r _))
theorem t_mark {kd : Int32} : Tot (fun P => sp_mark W x kd fd fs (pF P)) := by
  by_cases h : ∃ k, 1 ≤ k ∧ k ≤ 3 ∧ kd = nI k
  · obtain ⟨k, h1, h3, e⟩ := id h
    obtain ⟨o, q⟩ : Tot (fun P => lk W x fd fs (pF P) (fun j => (vK (W j) = kd → pF P (if k = 3 then nI (pop (thr (vG (W j)) (vL (W j)) 0)) else vM (W j)) fd fs) ∧ (vK (W j) ≠ kd → pF P (-3) 3 (fnd fs 3)))) := tt_lk (fun _ _ _ => tt_r _) (fun _ _ _ _ => tt_c' (fun _ => tt_r _) (fun _ => tt_r _))
    refine ⟨o, fun P p => ⟨fun z => absurd h z, fun k' a b e' => ?_⟩⟩
    have : k = k' := (nI_eq (by omega) (by omega)).mp (e.symm.trans e')
    exact this ▸ q P p
  · exact ⟨(-1, fd, fs), fun P p => ⟨fun _ => p, fun k a b e => absurd ⟨k, a, b, e⟩ h⟩⟩
theorem t_points (hW : AWok W) {l : Int32} {a : Int64} : Tot (fun P => sp_points W x l fd a fs (pA P)) := tt_lk (fun _ _ _ => tt_r _) (fun _ hj _ z => tt_n' (by have := vL_le hW hj z; omega) (tt_r _) (fun _ _ _ => tt_r _))
theorem t_lines (hW : AWok W) {l : Int32} {a : Int64} : Tot (fun P => sp_lines W x l fd a fs (pA P)) := tt_lk (fun _ _ _ => tt_r _) (fun _ hj _ _ => tt_n' (by have := vP_le hW hj; omega) (tt_r _) (fun _ _ _ => tt_r _))
theorem t_fault {a : Int64} : Tot (fun P => sp_fault W x fd a fs (pA P)) := tt_lk (fun _ _ _ => tt_r _) (fun _ _ _ _ => tt_r _)
theorem t_mean : Tot (fun P => sp_mean W x fd fs (pF P)) := tt_lk (fun _ _ _ => tt_r _) (fun _ _ _ _ => tt_c' (fun _ => tt_r _) (fun _ => tt_r _))
theorem t_perp {s a : Int64} : Tot (fun P => sp_perp W x s fd a fs (pA P)) := tt_lk (fun _ _ _ => tt_r _) (fun _ _ _ _ => tt_c' (fun _ => tt_r _) (fun _ => tt_r _))
theorem tt_pq {α : Type} {p q : Int32} {N M : Nat} (hN : N < 2 ^ 31) (hM : M < 2 ^ 31) {A : (α → Prop) → Prop} {B : Nat → Nat → (α → Prop) → Prop} (h : Tot A) (k : ∀ a b, a < N → b < M → p = nI a → q = nI b → Tot (B a b)) : Tot (fun P => (¬ (num p N ∧ num q M) → A P) ∧ ∀ a b, a < N → b < M → p = nI a → q = nI b → B a b P) := by
  by_cases c : num p N ∧ num q M
  · obtain ⟨⟨a, ha, ea⟩, b, hb, eb⟩ := id c
    obtain ⟨o, z⟩ := k a b ha hb ea eb
    exact ⟨o, fun P w => ⟨fun d => absurd c d, fun a' b' ha' hb' ea' eb' => num_1 hN ha ha' ea ea' ▸ num_1 hM hb hb' eb eb' ▸ z P w⟩⟩
  · obtain ⟨o, z⟩ := h
    exact ⟨o, fun P w => ⟨fun _ => z P w, fun a b ha hb ea eb => absurd ⟨⟨a, ha, ea⟩, b, hb, eb⟩ c⟩⟩
theorem t_span (hW : AWok W) {p q : Int32} {a : Int64} : Tot (fun P => sp_span W x p q fd a fs (pA P)) := tt_lk (fun _ _ _ => tt_r _) (fun j hj _ _ => tt_pq (by have := vP_le hW hj; omega) (by have := vP_le hW hj; omega) (tt_r _) (fun a b _ _ _ _ => by
  cases c : hs (nrs (vG (W j)) (vL (W j)) a) b
  · exact ⟨_, fun P w => ⟨fun z => absurd z (by decide), fun _ => w⟩⟩
  · exact ⟨_, fun P w => ⟨fun _ => w, fun z => absurd z (by decide)⟩⟩))
theorem t_regular (hW : AWok W) {p : Int32} : Tot (fun P => sp_regular W x p fd fs (pF P)) := tt_lk (fun _ _ _ => tt_r _) (fun _ hj _ _ => tt_n (by have := vP_le hW hj; omega) (tt_r _) (fun _ _ _ => tt_c' (fun _ => tt_c' (fun _ => tt_r _) (fun _ => tt_r _)) (fun _ => tt_r _)))
theorem t_centres (hW : AWok W) {p q s : Int32} : Tot (fun P => sp_centres W x p q s fd fs (pF P)) := tt_lk (fun _ _ _ => tt_r _) (fun j hj _ _ => by
  have hN : vP (W j) < 2 ^ 31 := by have := vP_le hW hj; omega
  by_cases c : num p (vP (W j)) ∧ num q (vP (W j)) ∧ num s (vP (W j))
  · obtain ⟨⟨a, ha, ea⟩, ⟨b, hb, eb⟩, u, hu, eu⟩ := id c
    exact ⟨_, fun P w => ⟨fun d => absurd c d, fun a' b' u' ha' hb' hu' ea' eb' eu' => num_1 hN ha ha' ea ea' ▸ num_1 hN hb hb' eb eb' ▸ num_1 hN hu hu' eu eu' ▸ w⟩⟩
  · exact ⟨_, fun P w => ⟨fun _ => w, fun a b u ha hb hu ea eb eu => absurd ⟨⟨a, ha, ea⟩, ⟨b, hb, eb⟩, u, hu, eu⟩ c⟩⟩)
theorem t_meets {s : Int64} {m : Int32} : Tot (fun P => sp_meets W x s m fd fs (pF P)) := tt_lk (fun _ _ _ => tt_r _) (fun _ _ _ _ => tt_c (fun _ => tt_r _) (fun _ => tt_c' (fun _ => tt_r _) (fun _ => tt_r _)))
theorem t_far (hW : AWok W) {p q : Int32} : Tot (fun P => sp_far W x p q fd fs (pF P)) := tt_lk (fun _ _ _ => tt_r _) (fun j hj _ _ => tt_pq (by have := vP_le hW hj; omega) (by have := vP_le hW hj; omega) (tt_r _) (fun a b _ _ _ _ => by
  by_cases c : ∃ k, k < vP (W j) ∧ hs (rch (nrs (vG (W j)) (vL (W j))) (vP (W j)) a k) b = true
  · obtain ⟨k, ⟨hk, e⟩, hm⟩ : ∃ k, (k < vP (W j) ∧ hs (rch (nrs (vG (W j)) (vL (W j))) (vP (W j)) a k) b = true) ∧ ∀ i, i < k → ¬ (i < vP (W j) ∧ hs (rch (nrs (vG (W j)) (vL (W j))) (vP (W j)) a i) b = true) := by
      have hlt : fa_first (fun k => hs (rch (nrs (vG (W j)) (vL (W j))) (vP (W j)) a k) b) (vP (W j)) < vP (W j) := by
        obtain ⟨k, hk, e⟩ := c
        refine Classical.byContradiction fun z => ?_
        have := fa_first_no (fun k => hs (rch (nrs (vG (W j)) (vL (W j))) (vP (W j)) a k) b) (vP (W j)) k (by omega)
        rw [e] at this
        cases this
      exact ⟨_, ⟨hlt, fa_first_yes _ _ hlt⟩, fun i hi z => by
        have := fa_first_no (fun k => hs (rch (nrs (vG (W j)) (vL (W j))) (vP (W j)) a k) b) (vP (W j)) i hi
        rw [z.2] at this
        cases this⟩
    refine ⟨(nI k, fd, fs), fun P w => ⟨fun k' hk' e' hm' => ?_, fun z => absurd e (by rw [z k hk]; decide)⟩⟩
    have h1 : ¬ k < k' := fun z => by rw [hm' k z] at e; cases e
    have h2 : ¬ k' < k := fun z => hm k' z ⟨hk', e'⟩
    have : k = k' := by omega
    exact this ▸ w
  · refine ⟨(-9, fd, fs), fun P w => ⟨fun k' hk' e' hm' => absurd ⟨k', hk', e'⟩ c, fun z => w⟩⟩))
theorem tt_T {α : Type} {n : Int32} {A : (α → Prop) → Prop} {B : Nat → (α → Prop) → Prop} (h : Tot A) (k : ∀ k, 1 ≤ k → k ≤ 100000 → n = nI k → Tot (B k)) : Tot (fun P => (¬ numT n → A P) ∧ ∀ k, 1 ≤ k → k ≤ 100000 → n = nI k → B k P) := by
  by_cases c : numT n
  · obtain ⟨a, h1, h2, e⟩ := id c
    obtain ⟨o, z⟩ := k a h1 h2 e
    exact ⟨o, fun P w => ⟨fun d => absurd c d, fun b q1 q2 e' => by
      have : a = b := (nI_eq (by omega) (by omega)).mp (e.symm.trans e')
      exact this ▸ z P w⟩⟩
  · obtain ⟨o, z⟩ := h
    exact ⟨o, fun P w => ⟨fun _ => z P w, fun b q1 q2 e => absurd ⟨b, q1, q2, e⟩ c⟩⟩
theorem tt_b {α : Type} {b : Bool} {A B : (α → Prop) → Prop} (h : b = true → Tot A) (k : b = false → Tot B) : Tot (fun P => (b = true → A P) ∧ (b = false → B P)) := by
  cases b
  · obtain ⟨o, z⟩ := k rfl
    exact ⟨o, fun P w => ⟨fun d => absurd d (by decide), fun _ => z P w⟩⟩
  · obtain ⟨o, z⟩ := h rfl
    exact ⟨o, fun P w => ⟨fun _ => z P w, fun d => absurd d (by decide)⟩⟩
theorem tt_b' {α : Type} {b : Bool} {A B : (α → Prop) → Prop} (h : b = true → Tot A) (k : b = false → Tot B) : Tot (fun P => (b = false → B P) ∧ (b = true → A P)) := by
  obtain ⟨o, z⟩ := tt_b h k
  exact ⟨o, fun P w => ⟨(z P w).2, (z P w).1⟩⟩
theorem t_seek {b : Bool} {z : Z4} {n tr : Int32} {a : Int64} : Tot (fun P => sp_seek b z W x n fd tr a fs (pT P)) := tt_T (tt_r _) (fun k _ _ _ => tt_lk (fun _ _ _ => tt_r _) (fun j _ _ _ => tt_b (fun _ => tt_r _) (fun _ => tt_c' (fun _ => tt_r _) (fun _ => tt_r _))))
theorem t_ovoids {z : Z4} {n tr : Int32} {a : Int64} : Tot (fun P => sp_ovoids z W x n fd tr a fs (pT P)) := tt_T (tt_r _) (fun k _ _ _ => tt_lk (fun _ _ _ => tt_r _) (fun j _ _ _ => tt_b (fun _ => tt_r _) (fun _ => tt_r _)))
theorem t_rank {r : Int32} : Tot (fun P => sp_rank W x r fd fs (pF P)) := by
  by_cases c : ∃ r', isR r' ∧ r = nI r'
  · obtain ⟨a, h1, e⟩ := id c
    obtain ⟨o, z⟩ : Tot (fun P => lk W x fd fs (pF P) (fun j => pF P (nI (rkW a (W j))) fd fs)) := tt_lk (fun _ _ _ => tt_r _) (fun _ _ _ _ => tt_r _)
    have lt : ∀ {r}, isR r → r < 6 := fun h => by rcases h with h | h | h <;> omega
    exact ⟨o, fun P w => ⟨fun d => absurd c d, fun b q1 e' => by
      have h2 := lt h1
      have h3 := lt q1
      have : a = b := (nI_eq (by omega) (by omega)).mp (e.symm.trans e')
      exact this ▸ z P w⟩⟩
  · exact ⟨(-1, fd, fs), fun P w => ⟨fun _ => w, fun b q1 e => absurd ⟨b, q1, e⟩ c⟩⟩
theorem t_world {p : Int32} : Tot (fun P => sp_world W x p (pG P)) := by
  by_cases c : num x 6 ∧ ∃ P, 2 ≤ P ∧ P ≤ 45 ∧ p = nI P
  · obtain ⟨⟨j, hj, ej⟩, P, h1, h2, e⟩ := id c
    refine ⟨(p, upW W j (P, 0, 0, 0, fun _ => 0)), fun Q w => ⟨fun d => absurd c d, fun j' P' hj' ej' h1' h2' e' => ?_⟩⟩
    have q1 : j = j' := num_1 (by decide) hj hj' ej ej'
    have q2 : P = P' := (nI_eq (by omega) (by omega)).mp (e.symm.trans e')
    subst q1
    subst q2
    exact w
  · exact ⟨(-1, W), fun Q w => ⟨fun _ => w, fun j P hj ej h1 h2 e => absurd ⟨⟨j, hj, ej⟩, P, h1, h2, e⟩ c⟩⟩
theorem t_grid {xa xb : Int32} : Tot (fun P => sp_grid W x xa xb (pG P)) := by
  by_cases c : num x 6 ∧ (∃ a, 2 ≤ a ∧ a ≤ 6 ∧ xa = nI a) ∧ ∃ b, 2 ≤ b ∧ b ≤ 6 ∧ xb = nI b
  · obtain ⟨⟨j, hj, ej⟩, ⟨a, h1, h2, e⟩, b, k1, k2, f⟩ := id c
    refine ⟨(nI (a * b), upW W j (a * b, a + b, 1, nI a, gGr a b)), fun Q w => ⟨fun d => absurd c d, fun j' a' b' hj' ej' h1' h2' e' k1' k2' f' => ?_⟩⟩
    have q1 : j = j' := num_1 (by decide) hj hj' ej ej'
    have q2 : a = a' := (nI_eq (by omega) (by omega)).mp (e.symm.trans e')
    have q3 : b = b' := (nI_eq (by omega) (by omega)).mp (f.symm.trans f')
    subst q1
    subst q2
    subst q3
    exact w
  · exact ⟨(-1, W), fun Q w => ⟨fun _ => w, fun j a b hj ej h1 h2 e k1 k2 f => absurd ⟨⟨j, hj, ej⟩, ⟨a, h1, h2, e⟩, b, k1, k2, f⟩ c⟩⟩
theorem t_form {q : Int32} : Tot (fun P => sp_form W x q (pG P)) := by
  by_cases c : num x 6 ∧ ∃ q', isQ q' ∧ q = nI q'
  · obtain ⟨⟨j, hj, ej⟩, a, h1, e⟩ := id c
    refine ⟨(nI (Pq a), upW W j (Pq a, Pq a, 2, nI a, gF a)), fun Q w => ⟨fun d => absurd c d, fun j' a' hj' h1' ej' e' => ?_⟩⟩
    have q1 : j = j' := num_1 (by decide) hj hj' ej ej'
    have q2 : a = a' := (nI_eq (by rcases h1 with h | h <;> omega) (by rcases h1' with h | h <;> omega)).mp (e.symm.trans e')
    subst q1
    subst q2
    exact w
  · exact ⟨(-1, W), fun Q w => ⟨fun _ => w, fun j a hj h1 ej e => absurd ⟨⟨j, hj, ej⟩, a, h1, e⟩ c⟩⟩
theorem t_dual {t : Int32} : Tot (fun P => sp_dual W x t fd fs (pW P)) := tt_n (by decide) (tt_r _) (fun b _ _ => tt_lk (fun _ _ _ => tt_r _) (fun j _ _ _ => tt_c (fun _ => tt_r _) (fun _ => tt_r _)))
theorem t_part {s : Int64} {t : Int32} : Tot (fun P => sp_part W x s t fd fs (pW P)) := tt_n (by decide) (tt_r _) (fun b _ _ => tt_lk (fun _ _ _ => tt_r _) (fun j _ _ _ => tt_c (fun _ => tt_r _) (fun _ => tt_c' (fun _ => tt_r _) (fun _ => tt_r _))))
theorem t_derive (hW : AWok W) {p t : Int32} : Tot (fun P => sp_derive W x p t fd fs (pW P)) := tt_n (by decide) (tt_r _) (fun b _ _ => tt_lk (fun _ _ _ => tt_r _) (fun j hj _ _ => tt_n (by have := vP_le hW hj; omega) (tt_r _) (fun a _ _ => tt_c (fun _ => tt_r _) (fun _ => by
  by_cases c : 45 < nBb (vG (W j)) (vP (W j)) (vL (W j)) a (vP (W j))
  · exact ⟨(-2, fd, fs, W), fun P w => ⟨fun _ => w, fun d => absurd c (by omega)⟩⟩
  · exact ⟨(nI (pop (kpt (vG (W j)) (vP (W j)) (vL (W j)) a)), fd, fs, upW W b (pop (kpt (vG (W j)) (vP (W j)) (vL (W j)) a), nBb (vG (W j)) (vP (W j)) (vL (W j)) a (vP (W j)), 3, 0, gBb (vG (W j)) (vP (W j)) (vL (W j)) a (vP (W j)))), fun P w => ⟨fun d => absurd d c, fun _ => w⟩⟩))))
theorem t_row {n : Int32} : Tot (fun P => sp_row R x n fd fs (pR P)) := tt_n (by decide) (tt_r _) (fun j _ _ => by
  by_cases c : 12 < n
  · have h0 : ¬ n < 0 := fun z => by
      rw [fa_lt] at c z
      have e1 : (12 : Int32).toInt = 12 := by decide
      have e0 : (0 : Int32).toInt = 0 := by decide
      omega
    refine ⟨(-1, fd, fs, R), fun P w => ⟨fun _ => w, fun d => absurd d h0, fun k hk e => ?_⟩⟩
    subst e
    have := (nI_ltI (by decide) (by omega)).mp (show nI 12 < nI k from c)
    omega
  · by_cases d : n < 0
    · refine ⟨(-3, 5, fnd fs 5, R), fun P w => ⟨fun z => absurd z c, fun _ => w, fun k hk e => ?_⟩⟩
      subst e
      have := (nI_ltI (by omega) (by decide)).mp (show nI k < nI 0 from d)
      omega
    · obtain ⟨k, hk, rfl⟩ := nI_of d
      refine ⟨(nI k, fd, fs, upR R j (k + 1, fun _ => 0)), fun P w => ⟨fun z => absurd z c, fun z => absurd z d, fun k' hk' e => ?_⟩⟩
      have : k = k' := (nI_eq hk (by omega)).mp e
      exact this ▸ w)
theorem t_lay_ (hR : ARok R) {i v : Int32} : Tot (fun P => sp_lay R x i v fd fs (pR P)) := tt_lkR (fun _ _ _ => tt_r _) (fun j n hj _ e => tt_n (by have := hR j hj; omega) (tt_r _) (fun _ _ _ => tt_r _))
theorem t_tear : Tot (fun P => sp_tear R x fd fs (pR P)) := tt_lkR (fun _ _ _ => tt_r _) (fun _ _ _ _ _ => tt_r _)
theorem t_sent {m : Nat} (hm : m ≤ 45) {f : Nat → Int32} : Tot (fun P => sp_sent x m f P) := tt_n' (by omega) (tt_r _) (fun _ _ _ => tt_r _)
theorem t_findings : Tot (fun P => sp_findings x fs P) := by
  by_cases c : ∃ k, 1 ≤ k ∧ k ≤ 5 ∧ x = nI k
  · obtain ⟨k, h1, h2, e⟩ := id c
    refine ⟨fs k, fun P w => ⟨fun k' h1' h2' e' => ?_, fun d => absurd c d⟩⟩
    have : k = k' := (nI_eq (by omega) (by omega)).mp (e.symm.trans e')
    exact this ▸ w
  · exact ⟨-1, fun P w => ⟨fun k h1 h2 e => absurd ⟨k, h1, h2, e⟩ c, fun _ => w⟩⟩
theorem t_count : Tot (fun P => sp_count W R x P) := tt_n (by decide) (tt_r _) (fun _ _ _ => tt_r _)
theorem t_digest : Tot (fun P => sp_digest W R P) := tt_r _
theorem t_alike {z : Z3} {S : SV} {y n tr : Int32} : Tot (fun P => sp_alike z W S x y n fd tr fs (pK P)) := by
  by_cases c : num x 6 ∧ num y 6 ∧ numT n
  · obtain ⟨⟨i, hi, ei⟩, ⟨j, hj, ej⟩, k, hk, hk2, ek⟩ := id c
    obtain ⟨o, q⟩ : Tot (fun P => (vP (W i) = 0 ∨ vP (W j) = 0 → pK P (-3) 1 tr (fnd fs 1) S) ∧ (¬ (vP (W i) = 0 ∨ vP (W j) = 0) → (¬ (vP (W i) = vP (W j) ∧ vL (W i) = vL (W j)) → pK P 0 fd 0 fs S) ∧ (vP (W i) = vP (W j) ∧ vL (W i) = vL (W j) → ((mkv (W i) (W j) k z).1 = true → pK P (-6) fd (nI (mkv (W i) (W j) k z).2.1) fs S) ∧ ((mkv (W i) (W j) k z).1 = false → ((mkv (W i) (W j) k z).2.2.1 = false → pK P 0 fd (nI (mkv (W i) (W j) k z).2.1) fs S) ∧ ((mkv (W i) (W j) k z).2.2.1 = true → pK P 1 fd (nI (mkv (W i) (W j) k z).2.1) fs (vP (W i), (mkv (W i) (W j) k z).2.2.2)))))) :=
      tt_c' (fun _ => tt_c (fun _ => tt_r _) (fun _ => tt_b (fun _ => tt_r _) (fun _ => tt_b' (fun _ => tt_r _) (fun _ => tt_r _)))) (fun _ => tt_r _)
    refine ⟨o, fun P w => ⟨fun d => absurd c d, fun i' j' k' hi' hj' hk' hk2' ei' ej' ek' => ?_⟩⟩
    have q1 : i = i' := num_1 (by decide) hi hi' ei ei'
    have q2 : j = j' := num_1 (by decide) hj hj' ej ej'
    have q3 : k = k' := (nI_eq (by omega) (by omega)).mp (ek.symm.trans ek')
    subst q1
    subst q2
    subst q3
    have := q P w
    exact ⟨this.1, fun n1 n2 => ⟨fun d => (this.2 (fun z => z.elim n1 n2)).1 d, fun e1 e2 => (this.2 (fun z => z.elim n1 n2)).2 ⟨e1, e2⟩⟩⟩
  · exact ⟨(-1, fd, tr, fs, S), fun P w => ⟨fun _ => w, fun i j k hi hj hk hk2 ei ej ek => absurd ⟨⟨i, hi, ei⟩, ⟨j, hj, ej⟩, k, hk, hk2, ek⟩ c⟩⟩
theorem t_line {r : Int32} : Tot (fun P => sp_line W R x r fd fs (pW P)) := tt_pq (by decide) (by decide) (tt_r _) (fun j a hj ha _ _ => by
  by_cases c : vP (W j) ≠ 0 ∧ vL (W j) = 45
  · exact ⟨(-2, fd, fs, W), fun P w => ⟨fun _ _ => w, fun d => absurd c d⟩⟩
  · by_cases d : vP (W j) = 0 ∨ rN (R a) = 0
    · exact ⟨(-3, 1, fnd fs 1, W), fun P w => ⟨fun z1 z2 => absurd ⟨z1, z2⟩ c, fun _ => ⟨fun _ => w, fun n h1 h2 => by
        rcases d with d | d
        · exact absurd d h1
        · omega⟩⟩⟩
    · obtain ⟨n, hn⟩ := Nat.exists_eq_succ_of_ne_zero (fun z => d (Or.inr z))
      obtain ⟨o, q⟩ : Tot (fun P => (vK (W j) ≠ 0 → pW P (-3) 3 (fnd fs 3) W) ∧ (vK (W j) = 0 → ((¬ ∀ i, i < n → num (rV (R a) i) (vP (W j))) → pW P (-3) 2 (fnd fs 2) W) ∧ ((∀ i, i < n → num (rV (R a) i) (vP (W j))) → (pop (stR (rV (R a)) n) < 2 → pW P (-3) 5 (fnd fs 5) W) ∧ (¬ pop (stR (rV (R a)) n) < 2 → pW P (nI (vL (W j))) fd fs (upW W j (lnV (W j) (stR (rV (R a)) n))))))) :=
        tt_c (fun _ => tt_r _) (fun _ => tt_c (fun _ => tt_r _) (fun _ => tt_c' (fun _ => tt_r _) (fun _ => tt_r _)))
      refine ⟨o, fun P w => ⟨fun z1 z2 => absurd ⟨z1, z2⟩ c, fun _ => ⟨fun z => absurd z d, fun n' h1 h2 => ?_⟩⟩⟩
      have e : n = n' := by omega
      subst e
      have := q P w
      exact ⟨this.1, fun k0 => ⟨(this.2 k0).1, fun all => ⟨((this.2 k0).2 all).1, fun h2 => ((this.2 k0).2 all).2 (by omega)⟩⟩⟩)
theorem t_copy (hR : ARok R) {i t k n : Int32} : Tot (fun P => sp_copy R x i t k n fd fs (pR P)) := tt_pq (by decide) (by decide) (tt_r _) (fun a b ha hb _ _ => tt_c' (fun hn => by
  by_cases d : rN (R a) = 0 ∨ rN (R b) = 0
  · exact ⟨(-3, 1, fnd fs 1, R), fun P w => ⟨fun _ => w, fun na nb h1 h2 => by rcases d with d | d <;> omega⟩⟩
  · obtain ⟨na, ea⟩ := Nat.exists_eq_succ_of_ne_zero (fun z => d (Or.inl z))
    obtain ⟨nb, eb⟩ := Nat.exists_eq_succ_of_ne_zero (fun z => d (Or.inr z))
    have ba := hR a ha
    have bb := hR b hb
    obtain ⟨o, q⟩ : Tot (fun P => (¬ fits i k n na nb → pR P (-3) 2 (fnd fs 2) R) ∧ (fits i k n na nb → ∀ i' k' n', i = nI i' → k = nI k' → n = nI n' → i' + n' ≤ na → k' + n' ≤ nb → pR P 1 fd fs (upR R b (nb + 1, cpV (rV (R a)) (rV (R b)) i' k' n')))) := tt_c (fun _ => tt_r _) (fun f => by
      obtain ⟨i1, k1, n1, e1, e2, e3, l1, l2⟩ := f
      refine ⟨(1, fd, fs, upR R b (nb + 1, cpV (rV (R a)) (rV (R b)) i1 k1 n1)), fun P w => fun i' k' n' e1' e2' e3' l1' l2' => ?_⟩
      have q1 : i1 = i' := (nI_eq (by omega) (by omega)).mp (e1.symm.trans e1')
      have q2 : k1 = k' := (nI_eq (by omega) (by omega)).mp (e2.symm.trans e2')
      have q3 : n1 = n' := (nI_eq (by omega) (by omega)).mp (e3.symm.trans e3')
      subst q1
      subst q2
      subst q3
      exact w)
    refine ⟨o, fun P w => ⟨fun z => absurd z d, fun na' nb' h1 h2 => ?_⟩⟩
    have e1 : na = na' := by omega
    have e2 : nb = nb' := by omega
    subst e1
    subst e2
    have := q P w
    refine ⟨this.1, fun i' k' n' e1' e2' e3' l1' l2' => this.2 ⟨i', k', n', e1', e2', e3', l1', l2'⟩ i' k' n' e1' e2' e3' l1' l2'⟩) (fun _ => tt_r _))
end
