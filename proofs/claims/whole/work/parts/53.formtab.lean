/-! the squares of four letters: tables, each held by counting -/
def isQ (q : Nat) : Prop := q = 2 ∨ q = 3
def PCq (q : Nat) : List Nat := if q = 2 then [1, 2, 3, 4, 5, 6, 7, 8, 9, 10, 11, 12, 13, 14, 15] else [1, 3, 4, 5, 9, 10, 11, 12, 13, 14, 15, 16, 17, 27, 28, 29, 30, 31, 32, 33, 34, 35, 36, 37, 38, 39, 40, 41, 42, 43, 44, 45, 46, 47, 48, 49, 50, 51, 52, 53]
def NLq (q : Nat) : List Nat := if q = 2 then [6553, 10922, 19660, 127, 26137, 21802, 13132, 1927, 25057, 21202, 13492, 30727, 7777, 11602, 19252] else [15061803121, 157073089682, 587410321684, 346421471768, 8191, 963955392625, 120494424177, 314146178194, 210865246484, 572348516888, 628292355218, 180741638680, 301236064532, 4186127, 962307613569, 122138196993, 314757952066, 211042838724, 571584292168, 627678193954, 181505634472, 301060990500, 2143289359, 120292115329, 962102500353, 627372610114, 301793560772, 181066089800, 313841191202, 571906625704, 211599590948, 1097364144143, 16911893377, 15270943745, 157381071426, 586675226820, 346861241672, 157992241442, 346099372200, 586851042852]
def FLq (q : Nat) : List Nat := if q = 2 then [25, 385, 6145, 42, 642, 10242, 76, 1156, 18436, 16912, 9232, 16672, 5152, 8512, 4672] else [113, 57345, 29360129, 15032385537, 1170, 598018, 306184194, 156766306306, 4372, 2236420, 1145044996, 586263035908, 2584, 1318920, 675282952, 345744867336, 550293209120, 138513743904, 275148439584, 34494021696, 68753162304, 17247240256, 274945032320, 4831969408, 34369175680, 137573187840, 4563665152, 68728389888, 549789385216, 5368775168, 17190355456, 69793252352, 549772854272, 8726250496, 34628208640, 137455863808, 8657569792, 17716776960, 274894753792, 8624541696]
def Pq (q : Nat) : Nat := if q = 2 then 15 else 40
def pcF (q p : Nat) : Nat := (PCq q).getD p 0
def nlF (q p : Nat) : Nat := (NLq q).getD p 0
def flQ (q l : Nat) : Nat := (FLq q).getD l 0
/-- the letters of a code -/
def dq (q c i : Nat) : Nat := if i = 0 then c / (q * q * q) else if i = 1 then c / (q * q) % q else if i = 2 then c / q % q else c % q
def frs (q c : Nat) : Nat := if 0 < dq q c 0 then dq q c 0 else if 0 < dq q c 1 then dq q c 1 else if 0 < dq q c 2 then dq q c 2 else dq q c 3
def zrN (q a b : Nat) : Bool := (dq q a 0 * dq q b 1 + (q - 1) * (dq q a 1 * dq q b 0) + dq q a 2 * dq q b 3 + (q - 1) * (dq q a 3 * dq q b 2)) % q == 0
def ckP (q : Nat) : Nat → Nat → Nat → Bool
  | 0, _, p => p == Pq q
  | m + 1, c, p => if frs q c = 1 then (decide (p < Pq q) && (pcF q p == c && ckP q m (c + 1) (p + 1))) else ckP q m (c + 1) p
def nbW (q row : Nat) : Nat → Nat → Nat → Nat → Nat
  | 0, _, _, acc => acc
  | m + 1, o, p, acc => if frs q o = 1 then nbW q row m (o + 1) (p + 1) (if zrN q row o then acc ||| 2 ^ p else acc) else nbW q row m (o + 1) p acc
def cdQ (q a b : Nat) : Bool := (nlF q a).testBit b && ((nlF q a &&& nlF q b) &&& (2 ^ b - 1)) == 2 ^ a
def chI (q a : Nat) : Nat → Nat → Nat → Option Nat
  | 0, _, c => some c
  | m + 1, b, c => if cdQ q a b then (if c < Pq q ∧ flQ q c = (nlF q a &&& nlF q b) then chI q a m (b + 1) (c + 1) else none) else chI q a m (b + 1) c
def chO (q : Nat) : Nat → Nat → Nat → Option Nat
  | 0, _, c => some c
  | m + 1, a, c => match chI q a (Pq q - (a + 1)) (a + 1) c with
    | none => none
    | some c' => chO q m (a + 1) c'
def nrW (q p : Nat) : Nat → Nat
  | 0 => 2 ^ p
  | l + 1 => if (flQ q l).testBit p then nrW q p l ||| flQ q l else nrW q p l
def okM (q a b c m n : Nat) : Bool := (List.range 4).all fun i => (m * dq q (pcF q a) i + n * dq q (pcF q b) i + (q - 1) * dq q (pcF q c) i) % q == 0
def loN (q a b c m : Nat) : Nat → Nat → Nat → Nat
  | 0, _, acc => acc
  | k + 1, n, acc => loN q a b c m k (n + 1) (if okM q a b c m n then acc ||| 2 ^ c else acc)
def loM (q a b c : Nat) : Nat → Nat → Nat → Nat
  | 0, _, acc => acc
  | k + 1, m, acc => loM q a b c k (m + 1) (loN q a b c m (q - 1) 1 acc)
def loC (q a b : Nat) : Nat → Nat → Nat → Nat
  | 0, _, acc => acc
  | k + 1, c, acc => loC q a b k (c + 1) (loM q a b c (q - 1) 1 acc)
def rg (n : Nat) (f : Nat → Bool) : Bool := (List.range n).all f
theorem rg_at {n : Nat} {f : Nat → Bool} (h : rg n f = true) {k : Nat} (hk : k < n) : f k = true := List.all_eq_true.mp h k (List.mem_range.mpr hk)
def k1 (q : Nat) : Bool := ckP q (q * q * q * q - 1) 1 0
def k2 (q : Nat) : Bool := rg (Pq q) fun p => nbW q (pcF q p) (q * q * q * q - 1) 1 0 0 == nlF q p && decide (pcF q p < q * q * q * q) && decide (nlF q p < 2 ^ Pq q)
def k3 (q : Nat) : Bool := chO q (Pq q) 0 0 == some (Pq q)
def k4 (q : Nat) : Bool := rg (Pq q) fun l => decide (flQ q l < 2 ^ Pq q) && (rg (Pq q) fun p => !(flQ q l).testBit p || (nlF q p ||| flQ q l) == nlF q p) && !(rg (Pq q) fun p => !(flQ q l).testBit p)
def k5 (q : Nat) : Bool := rg (Pq q) fun p => nrW q p (Pq q) == nlF q p
def k7 (q : Nat) : Bool := rg (Pq q) fun a => rg (Pq q) fun b => !(decide (a < b) && (nlF q a).testBit b) || (loC q a b (Pq q) 0 (2 ^ a ||| 2 ^ b) == (nlF q a &&& nlF q b))
def k8 (q : Nat) : Bool := rg (Pq q) fun a => rg (Pq q) fun b => (zrN q (pcF q a) (pcF q b) == (nlF q a).testBit b) && (nlF q a).testBit a && ((nlF q a).testBit b == (nlF q b).testBit a)
theorem k1_2 : k1 2 = true := by decide +kernel
theorem k2_2 : k2 2 = true := by decide +kernel
theorem k3_2 : k3 2 = true := by decide +kernel
theorem k4_2 : k4 2 = true := by decide +kernel
theorem k5_2 : k5 2 = true := by decide +kernel
theorem k8_2 : k8 2 = true := by decide +kernel
theorem k7_2 : k7 2 = true := by decide +kernel
theorem k1_3 : k1 3 = true := by decide +kernel
theorem k2_3 : k2 3 = true := by decide +kernel
theorem k3_3 : k3 3 = true := by decide +kernel
theorem k4_3 : k4 3 = true := by decide +kernel
theorem k5_3 : k5 3 = true := by decide +kernel
theorem k8_3 : k8 3 = true := by decide +kernel
theorem k7_3 : k7 3 = true := by decide +kernel
theorem k1_q {q : Nat} (h : isQ q) : k1 q = true := by
  rcases h with rfl | rfl
  · exact k1_2
  · exact k1_3
theorem k2_q {q : Nat} (h : isQ q) : k2 q = true := by
  rcases h with rfl | rfl
  · exact k2_2
  · exact k2_3
theorem k3_q {q : Nat} (h : isQ q) : k3 q = true := by
  rcases h with rfl | rfl
  · exact k3_2
  · exact k3_3
theorem k4_q {q : Nat} (h : isQ q) : k4 q = true := by
  rcases h with rfl | rfl
  · exact k4_2
  · exact k4_3
theorem k5_q {q : Nat} (h : isQ q) : k5 q = true := by
  rcases h with rfl | rfl
  · exact k5_2
  · exact k5_3
theorem k7_q {q : Nat} (h : isQ q) : k7 q = true := by
  rcases h with rfl | rfl
  · exact k7_2
  · exact k7_3
theorem k8_q {q : Nat} (h : isQ q) : k8 q = true := by
  rcases h with rfl | rfl
  · exact k8_2
  · exact k8_3
