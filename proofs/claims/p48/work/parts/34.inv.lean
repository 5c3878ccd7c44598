/-! LAYER B: the invariants of the reference's array and the relation to the class's tables -/
def vb (x : Int32) (lo hi : Nat) : Prop := ∃ n, x = nI n ∧ lo ≤ n ∧ n ≤ hi
def vm (x : Int32) (hi : Nat) : Prop := x = -1 ∨ vb x 0 hi
def I0 (A : Nat → Int32) (c : Nat → Nat) : Prop := ∀ i, i < 14 → A i = nI (c i)
def I1 (c : Nat → Nat) (K : Nat) : Prop := c 0 ≤ 1999 ∧ c 1 ≤ 10 ∧ c 2 ≤ 30 ∧ c 3 ≤ 40 ∧ c 4 ≤ 100 ∧ c 5 ≤ 40 ∧ c 6 ≤ 10 ∧ c 7 ≤ 200 ∧ c 8 ≤ 100 ∧ c 9 ≤ 100 ∧ c 10 ≤ 50 ∧ c 11 ≤ K ∧ c 12 ≤ 60 ∧ c 13 ≤ 60 ∧ K ≤ 512
def I2 (A : Nat → Int32) : Prop := vb (A 14) 0 50 ∧ vb (A 15) 0 50 ∧ vb (A 16) 1 200
def Isort (A : Nat → Int32) : Prop := ∀ i, i < 4 → vb (A (20 + 4 * i)) 1 200 ∧ vb (A (20 + 4 * i + 1)) 1 200 ∧ vb (A (20 + 4 * i + 2)) 1 500 ∧ vb (A (20 + 4 * i + 3)) 1 500
def Isite (A : Nat → Int32) (ns : Nat) : Prop := ∀ i, i < ns → vb (A (40 + 8 * i)) 0 1 ∧ vb (A (40 + 8 * i + 1)) 0 3 ∧ vb (A (40 + 8 * i + 2)) 0 1 ∧ vb (A (40 + 8 * i + 3)) 0 1 ∧ vb (A (40 + 8 * i + 4)) 1 50
def Iroad (A : Nat → Int32) (nr ns : Nat) : Prop := ∀ r, r < nr → ∃ x y d, A (120 + 4 * r) = nI x ∧ A (120 + 4 * r + 1) = nI y ∧ A (120 + 4 * r + 2) = nI d ∧ x < ns ∧ y < ns ∧ x ≠ y ∧ 1 ≤ d ∧ d ≤ 60 ∧ A (40 + 8 * x) = A (40 + 8 * y)
def Ithing (A : Nat → Int32) (nt ns dy : Nat) : Prop := (∀ t, t < nt → ∃ s, A (240 + 12 * t + 5) = nI s ∧ s < ns ∧ A (240 + 12 * t + 3) = A (40 + 8 * s) ∧ vb (A (240 + 12 * t)) 0 3 ∧ vb (A (240 + 12 * t + 1)) 1 200 ∧ vb (A (240 + 12 * t + 2)) 1 500 ∧ vb (A (240 + 12 * t + 3)) 0 1 ∧ vb (A (240 + 12 * t + 4)) 0 dy ∧ vm (A (240 + 12 * t + 7)) dy ∧ vm (A (240 + 12 * t + 8)) dy) ∧ ∀ t, nt ≤ t → t < 40 → A (240 + 12 * t + 6) = 0
def Imove (A : Nat → Int32) (nm nt ns dy : Nat) : Prop := ∀ m, m < nm → ∃ t x y d e, A (720 + 8 * m) = nI t ∧ A (720 + 8 * m + 1) = nI d ∧ A (720 + 8 * m + 2) = nI x ∧ A (720 + 8 * m + 3) = nI y ∧ A (720 + 8 * m + 4) = nI e ∧ t < nt ∧ x < ns ∧ y < ns ∧ d ≤ dy ∧ d < e ∧ e ≤ 1999 ∧ A (40 + 8 * y) = A (240 + 12 * t + 3)
def Iseal (A : Nat → Int32) (nl ns dy : Nat) : Prop := ∀ i, i < nl → ∃ s d, A (1520 + 4 * i) = nI s ∧ A (1520 + 4 * i + 1) = nI d ∧ s < ns ∧ d ≤ dy
def Itold (A : Nat → Int32) (no nt ns dy : Nat) : Prop := ∀ i, i < no → ∃ t p f d, A (9680 + 8 * i) = nI t ∧ A (9680 + 8 * i + 1) = nI p ∧ A (9680 + 8 * i + 2) = nI f ∧ A (9680 + 8 * i + 3) = nI d ∧ t < nt ∧ (p < ns ∨ p = 101) ∧ f ≤ dy ∧ d ≤ dy
def Ivis (A : Nat → Int32) (nv ns nl dy : Nat) : Prop := ∀ i, i < nv → ∃ s d, A (11280 + 12 * i + 1) = nI s ∧ A (11280 + 12 * i + 2) = nI d ∧ s < ns ∧ 1 ≤ d ∧ d ≤ dy ∧ vb (A (11280 + 12 * i)) 0 1 ∧ (∀ j, j < 5 → vb (A (11280 + 12 * i + 3 + j)) 0 40) ∧ (A (11280 + 12 * i + 8) = -1 ∨ vb (A (11280 + 12 * i + 8)) 0 1) ∧ (A (11280 + 12 * i + 8) = 1 → ∃ l, l < nl ∧ A (11280 + 12 * i + 9) = nI l)
def Ipic (A : Nat → Int32) (np ns dy : Nat) : Prop := ∀ i, i < np → ∃ s d n, A (12480 + 4 * i) = nI s ∧ A (12480 + 4 * i + 1) = nI d ∧ A (12480 + 4 * i + 2) = nI n ∧ s < ns ∧ 1 ≤ d ∧ d ≤ dy ∧ n ≤ 40
def Ique (A : Nat → Int32) (nq ns dy : Nat) : Prop := ∀ i, i < nq → ∃ l s d, A (12880 + 4 * i) = nI l ∧ A (12880 + 4 * i + 1) = nI s ∧ A (12880 + 4 * i + 2) = nI d ∧ l ≤ 1 ∧ s < ns ∧ d ≤ dy ∧ A (40 + 8 * s) = nI (1 - l) ∧ vm (A (12880 + 4 * i + 3)) dy
def kof (k : Nat) (c : Nat → Nat) : Nat := if k = 0 then c 3 else if k = 1 then c 4 else if k = 2 then c 3 else if k = 3 then c 7 else if k = 4 then c 8 else c 10
def Iact (A : Nat → Int32) (c : Nat → Nat) : Prop := ∀ i, i < c 11 → ∃ k d o, A (13080 + 8 * i) = nI k ∧ A (13080 + 8 * i + 1) = nI d ∧ A (13080 + 8 * i + 3) = nI o ∧ k ≤ 6 ∧ d ≤ c 0 ∧ vb (A (13080 + 8 * i + 2)) 0 1 ∧ o < kof k c ∧ (k = 2 → A (13080 + 8 * i + 4) = -1 ∨ vb (A (13080 + 8 * i + 4)) 0 d) ∧ ∀ j d', j < i → A (13080 + 8 * j + 1) = nI d' → d' < 2 ^ 31 → d' ≤ d
def Icld (A : Nat → Int32) (nc ns : Nat) : Prop := ∀ i, i < nc → ∃ s d, A (20760 + 2 * i) = nI s ∧ A (20760 + 2 * i + 1) = nI d ∧ s < ns ∧ d ≤ 1999
def Iwat (A : Nat → Int32) (nw ns : Nat) : Prop := ∀ i, i < nw → ∃ s d, A (20880 + 2 * i) = nI s ∧ A (20880 + 2 * i + 1) = nI d ∧ s < ns ∧ d ≤ 1999
/-- a visit's seal by its day -/
def Rvis2 (w : jW) (b : Nat) (A : Nat → Int32) (c : Nat → Nat) : Prop := ∀ i, i < c 8 → A (11280 + 12 * i + 8) = 1 → ∀ l, A (11280 + 12 * i + 9) = nI l → l < c 5 → w.1 (b + 24) (i * 10 + 9) = A (1520 + 4 * l + 1)
/-- what an act is of: the thing, the site or the question -/
def aof (A : Nat → Int32) (k o : Nat) : Int32 := if k = 1 then A (720 + 8 * o) else if k = 3 then A (9680 + 8 * o) else if k = 4 then A (11280 + 12 * o + 1) else if k = 5 then A (12880 + 4 * o + 1) else nI o
def Ract2 (w : jW) (b : Nat) (A : Nat → Int32) (c : Nat → Nat) : Prop := ∀ i k o, i < c 11 → A (13080 + 8 * i) = nI k → k ≤ 6 → A (13080 + 8 * i + 3) = nI o → o < 2 ^ 31 → w.1 (b + 30) (i * 5 + 3) = aof A k o ∧ w.1 (b + 30) (i * 5 + 4) = if k = 2 then A (13080 + 8 * i + 4) else nI o
/-- a road joins x and y and takes d days -/
def jnd (A : Nat → Int32) (r x y d : Nat) : Prop := A (120 + 4 * r + 2) = nI d ∧ ((A (120 + 4 * r) = nI x ∧ A (120 + 4 * r + 1) = nI y) ∨ (A (120 + 4 * r) = nI y ∧ A (120 + 4 * r + 1) = nI x))
/-- from i by n roads to y in l days -/
def Wk (A : Nat → Int32) (nr i : Nat) : Nat → Nat → Nat → Prop
  | 0, y, l => y = i ∧ l = 0
  | n + 1, y, l => ∃ x r d l', r < nr ∧ x < 10 ∧ y < 10 ∧ 1 ≤ d ∧ d ≤ 60 ∧ jnd A r x y d ∧ l = l' + d ∧ Wk A nr i n x l'
def Dis (A : Nat → Int32) (nr i y : Nat) (x : Int32) : Prop := (x = -1 ∧ ∀ n l, ¬ Wk A nr i n y l) ∨ ∃ l, x = nI l ∧ l ≤ 540 ∧ (∃ n, Wk A nr i n y l) ∧ ∀ n l', Wk A nr i n y l' → l ≤ l'
def Rway (w : jW) (b : Nat) (A : Nat → Int32) (c : Nat → Nat) : Prop := JR w (b + 5) 10 10 (c 1) ∧ ∀ i j, i < c 1 → j < 10 → Dis A (c 2) i j (w.1 (b + 6) (i * 10 + j))
/-- conditions as rows of tokens: (k, x, y): k < 6 a comparison of x and y, 6 not, 7 and, 8 or; an operand below 10000 is a number, else a name -/
def opc (x : Nat) : Nat := if x < 10000 then x else x + 10013
def cop (k : Nat) : Nat := if k = 6 then 30012 else if k = 7 then 30011 else 30010
def mop (k : Nat) : Nat := if k = 6 then 30 else if k = 7 then 22 else 21
def tln : List (Nat × Nat × Nat) → Nat
  | [] => 0
  | t :: L => (if t.1 < 6 then 3 else 1) + tln L
def tkc (f : Nat → Int32) : Nat → List (Nat × Nat × Nat) → Prop
  | _, [] => True
  | p, t :: L => if t.1 < 6 then f p = nI (opc t.2.1) ∧ f (p + 1) = nI (30018 + t.1) ∧ f (p + 2) = nI (opc t.2.2) ∧ tkc f (p + 3) L else f p = nI (cop t.1) ∧ tkc f (p + 1) L
def opm (A : Nat → Int32) (q x : Nat) : Prop := if x < 10000 then A q = 0 ∧ A (q + 1) = nI x else A q = 1 ∧ A (q + 1) = nI (x - 10000)
def tkm (A : Nat → Int32) : Nat → List (Nat × Nat × Nat) → Prop
  | _, [] => True
  | q, t :: L => if t.1 < 6 then opm A q t.2.1 ∧ opm A (q + 2) t.2.2 ∧ A (q + 4) = nI (10 + t.1) ∧ tkm A (q + 6) L else A q = nI (mop t.1) ∧ tkm A (q + 2) L
/-- the depth of truths behind them; none where one is wanting, or more than 60 -/
def wfd : List (Nat × Nat × Nat) → Nat → Option Nat
  | [], d => some d
  | t :: L, d => if t.1 < 6 then (if d < 60 ∧ t.2.1 < 10005 ∧ t.2.2 < 10005 then wfd L (d + 1) else none) else if t.1 = 6 then (if 1 ≤ d then wfd L d else none) else if t.1 ≤ 8 then (if 2 ≤ d then wfd L (d - 1) else none) else none
/-- a condition's codes on both sides -/
def Rcnd (w : jW) (b : Nat) (A : Nat → Int32) (t q r k0 ks : Nat) : Prop := ∃ L s, A (q + 4) = nI s ∧ A (q + 5) = nI (s + tln L) ∧ w.1 (b + 17) (r * 4 + 1) = nI (k0 + s) ∧ w.1 (b + 17) (r * 4 + 2) = nI (k0 + s + tln L) ∧ tkc (w.1 (b + 19)) (k0 + s) L ∧ tkm A (1680 + 800 * t + 140 + 2 * s) L ∧ wfd L 0 = some 1 ∧ s + tln L ≤ 300 ∧ k0 + s + tln L ≤ ks
/-- a clause on both sides: at q in the array, the r-th of the class's -/
def Rcl (w : jW) (b : Nat) (A : Nat → Int32) (t q r k0 ks : Nat) : Prop := ∃ s, A q = nI s ∧ 1 ≤ s ∧ s ≤ 7 ∧ w.1 (b + 17) (r * 4) = nI (s - 1) ∧ (s = 2 → w.1 (b + 17) (r * 4 + 1) = A (q + 1) ∧ w.1 (b + 17) (r * 4 + 2) = A (q + 2) ∧ w.1 (b + 17) (r * 4 + 3) = A (q + 3) ∧ vb (A (q + 1)) 0 99 ∧ vb (A (q + 2)) 0 1999 ∧ vb (A (q + 3)) 0 1999) ∧ (s = 3 ∨ s = 4 ∨ s = 6 ∨ s = 7 → w.1 (b + 17) (r * 4 + 1) = A (q + 1) ∧ vb (A (q + 1)) 0 360) ∧ (s = 6 → w.1 (b + 17) (r * 4 + 2) = A (q + 2) ∧ vb (A (q + 2)) 0 99) ∧ (s = 1 ∨ s = 5 → Rcnd w b A t q r k0 ks)
def Rtx (w : jW) (b : Nat) (A : Nat → Int32) (t n c0 k0 cs ks : Nat) : Prop := A (1680 + 800 * t) = nI n ∧ n ≤ 16 ∧ c0 + n ≤ cs ∧ vb (A (1680 + 800 * t + 1)) 0 1999 ∧ w.1 (b + 15) (t * 4) = A (1680 + 800 * t + 1) ∧ w.1 (b + 15) (t * 4 + 2) = nI c0 ∧ w.1 (b + 15) (t * 4 + 3) = nI (c0 + n) ∧ (∃ kd, w.1 (b + 15) (t * 4 + 1) = nI kd ∧ kd < 128 ∧ ∀ k, k < 7 → (kd.testBit k = true ↔ ∃ i, i < n ∧ A (1680 + 800 * t + 2 + 8 * i) = nI (k + 1))) ∧ ∀ i, i < n → Rcl w b A t (1680 + 800 * t + 2 + 8 * i) (c0 + i) k0 ks
def Rtext (w : jW) (b : Nat) (A : Nat → Int32) (c : Nat → Nat) : Prop := ∃ cs ks, JR w (b + 14) 4 10 (c 6) ∧ JR w (b + 16) 4 160 cs ∧ JR w (b + 18) 1 3000 ks ∧ cs ≤ 16 * c 6 ∧ ks ≤ 300 * c 6 ∧ ∀ t, t < c 6 → ∃ n c0 k0, Rtx w b A t n c0 k0 cs ks

def IA (A : Nat → Int32) (c : Nat → Nat) (K : Nat) : Prop := I0 A c ∧ I1 c K ∧ I2 A ∧ Isort A ∧ Isite A (c 1) ∧ Iroad A (c 2) (c 1) ∧ Ithing A (c 3) (c 1) (c 0) ∧ Imove A (c 4) (c 3) (c 1) (c 0) ∧ Iseal A (c 5) (c 1) (c 0) ∧ Itold A (c 7) (c 3) (c 1) (c 0) ∧ Ivis A (c 8) (c 1) (c 5) (c 0) ∧ Ipic A (c 9) (c 1) (c 0) ∧ Ique A (c 10) (c 1) (c 0) ∧ Iact A c ∧ Icld A (c 12) (c 1) ∧ Iwat A (c 13) (c 1)
def RR (w : jW) (b : Nat) (A : Nat → Int32) (c : Nat → Nat) : Prop := Rscal w b A ∧ Rsort w b A ∧ Rsite w b A ∧ Rthing w b A ∧ Rmove w b A ∧ Rseal w b A ∧ Rtold w b A ∧ Rvis w b A ∧ Rpic w b A ∧ Rque w b A ∧ Ract w b A ∧ Rcld w b A ∧ Rwat w b A ∧ Rchain w b A ∧ Rvis2 w b A c ∧ Ract2 w b A c ∧ Rway w b A c ∧ Rtext w b A c
def RA (w : jW) (b : Nat) (A : Nat → Int32) (c : Nat → Nat) (K : Nat) : Prop := IA A c K ∧ RR w b A c
section PR
variable {w : jW} {b : Nat} {A : Nat → Int32} {c : Nat → Nat} {K : Nat}
theorem p_I0 (h : RA w b A c K) : I0 A c := h.1.1
theorem p_I1 (h : RA w b A c K) : I1 c K := h.1.2.1
theorem p_I2 (h : RA w b A c K) : I2 A := h.1.2.2.1
theorem p_Isort (h : RA w b A c K) : Isort A := h.1.2.2.2.1
theorem p_Isite (h : RA w b A c K) : Isite A (c 1) := h.1.2.2.2.2.1
theorem p_Iroad (h : RA w b A c K) : Iroad A (c 2) (c 1) := h.1.2.2.2.2.2.1
theorem p_Ithing (h : RA w b A c K) : Ithing A (c 3) (c 1) (c 0) := h.1.2.2.2.2.2.2.1
theorem p_Imove (h : RA w b A c K) : Imove A (c 4) (c 3) (c 1) (c 0) := h.1.2.2.2.2.2.2.2.1
theorem p_Iseal (h : RA w b A c K) : Iseal A (c 5) (c 1) (c 0) := h.1.2.2.2.2.2.2.2.2.1
theorem p_Itold (h : RA w b A c K) : Itold A (c 7) (c 3) (c 1) (c 0) := h.1.2.2.2.2.2.2.2.2.2.1
theorem p_Ivis (h : RA w b A c K) : Ivis A (c 8) (c 1) (c 5) (c 0) := h.1.2.2.2.2.2.2.2.2.2.2.1
theorem p_Ipic (h : RA w b A c K) : Ipic A (c 9) (c 1) (c 0) := h.1.2.2.2.2.2.2.2.2.2.2.2.1
theorem p_Ique (h : RA w b A c K) : Ique A (c 10) (c 1) (c 0) := h.1.2.2.2.2.2.2.2.2.2.2.2.2.1
theorem p_Iact (h : RA w b A c K) : Iact A c := h.1.2.2.2.2.2.2.2.2.2.2.2.2.2.1
theorem p_Icld (h : RA w b A c K) : Icld A (c 12) (c 1) := h.1.2.2.2.2.2.2.2.2.2.2.2.2.2.2.1
theorem p_Iwat (h : RA w b A c K) : Iwat A (c 13) (c 1) := h.1.2.2.2.2.2.2.2.2.2.2.2.2.2.2.2
theorem p_Rscal (h : RA w b A c K) : Rscal w b A := h.2.1
theorem p_Rsort (h : RA w b A c K) : Rsort w b A := h.2.2.1
theorem p_Rsite (h : RA w b A c K) : Rsite w b A := h.2.2.2.1
theorem p_Rthing (h : RA w b A c K) : Rthing w b A := h.2.2.2.2.1
theorem p_Rmove (h : RA w b A c K) : Rmove w b A := h.2.2.2.2.2.1
theorem p_Rseal (h : RA w b A c K) : Rseal w b A := h.2.2.2.2.2.2.1
theorem p_Rtold (h : RA w b A c K) : Rtold w b A := h.2.2.2.2.2.2.2.1
theorem p_Rvis (h : RA w b A c K) : Rvis w b A := h.2.2.2.2.2.2.2.2.1
theorem p_Rpic (h : RA w b A c K) : Rpic w b A := h.2.2.2.2.2.2.2.2.2.1
theorem p_Rque (h : RA w b A c K) : Rque w b A := h.2.2.2.2.2.2.2.2.2.2.1
theorem p_Ract (h : RA w b A c K) : Ract w b A := h.2.2.2.2.2.2.2.2.2.2.2.1
theorem p_Rcld (h : RA w b A c K) : Rcld w b A := h.2.2.2.2.2.2.2.2.2.2.2.2.1
theorem p_Rwat (h : RA w b A c K) : Rwat w b A := h.2.2.2.2.2.2.2.2.2.2.2.2.2.1
theorem p_Rchain (h : RA w b A c K) : Rchain w b A := h.2.2.2.2.2.2.2.2.2.2.2.2.2.2.1
theorem p_Rvis2 (h : RA w b A c K) : Rvis2 w b A c := h.2.2.2.2.2.2.2.2.2.2.2.2.2.2.2.1
theorem p_Ract2 (h : RA w b A c K) : Ract2 w b A c := h.2.2.2.2.2.2.2.2.2.2.2.2.2.2.2.2.1
theorem p_Rway (h : RA w b A c K) : Rway w b A c := h.2.2.2.2.2.2.2.2.2.2.2.2.2.2.2.2.2.1
theorem p_Rtext (h : RA w b A c K) : Rtext w b A c := h.2.2.2.2.2.2.2.2.2.2.2.2.2.2.2.2.2.2
theorem h_0 (h : RA w b A c K) : A 0 = nI (c 0) := p_I0 h 0 (by omega)
theorem h_1 (h : RA w b A c K) : A 1 = nI (c 1) := p_I0 h 1 (by omega)
theorem h_2 (h : RA w b A c K) : A 2 = nI (c 2) := p_I0 h 2 (by omega)
theorem h_3 (h : RA w b A c K) : A 3 = nI (c 3) := p_I0 h 3 (by omega)
theorem h_4 (h : RA w b A c K) : A 4 = nI (c 4) := p_I0 h 4 (by omega)
theorem h_5 (h : RA w b A c K) : A 5 = nI (c 5) := p_I0 h 5 (by omega)
theorem h_6 (h : RA w b A c K) : A 6 = nI (c 6) := p_I0 h 6 (by omega)
theorem h_7 (h : RA w b A c K) : A 7 = nI (c 7) := p_I0 h 7 (by omega)
theorem h_8 (h : RA w b A c K) : A 8 = nI (c 8) := p_I0 h 8 (by omega)
theorem h_9 (h : RA w b A c K) : A 9 = nI (c 9) := p_I0 h 9 (by omega)
theorem h_10 (h : RA w b A c K) : A 10 = nI (c 10) := p_I0 h 10 (by omega)
theorem h_11 (h : RA w b A c K) : A 11 = nI (c 11) := p_I0 h 11 (by omega)
theorem h_12 (h : RA w b A c K) : A 12 = nI (c 12) := p_I0 h 12 (by omega)
theorem h_13 (h : RA w b A c K) : A 13 = nI (c 13) := p_I0 h 13 (by omega)
theorem l_0 (h : RA w b A c K) : c 0 ≤ 1999 := (p_I1 h).1
theorem l_1 (h : RA w b A c K) : c 1 ≤ 10 := (p_I1 h).2.1
theorem l_2 (h : RA w b A c K) : c 2 ≤ 30 := (p_I1 h).2.2.1
theorem l_3 (h : RA w b A c K) : c 3 ≤ 40 := (p_I1 h).2.2.2.1
theorem l_4 (h : RA w b A c K) : c 4 ≤ 100 := (p_I1 h).2.2.2.2.1
theorem l_5 (h : RA w b A c K) : c 5 ≤ 40 := (p_I1 h).2.2.2.2.2.1
theorem l_6 (h : RA w b A c K) : c 6 ≤ 10 := (p_I1 h).2.2.2.2.2.2.1
theorem l_7 (h : RA w b A c K) : c 7 ≤ 200 := (p_I1 h).2.2.2.2.2.2.2.1
theorem l_8 (h : RA w b A c K) : c 8 ≤ 100 := (p_I1 h).2.2.2.2.2.2.2.2.1
theorem l_9 (h : RA w b A c K) : c 9 ≤ 100 := (p_I1 h).2.2.2.2.2.2.2.2.2.1
theorem l_10 (h : RA w b A c K) : c 10 ≤ 50 := (p_I1 h).2.2.2.2.2.2.2.2.2.2.1
theorem l_12 (h : RA w b A c K) : c 12 ≤ 60 := (p_I1 h).2.2.2.2.2.2.2.2.2.2.2.2.1
theorem l_13 (h : RA w b A c K) : c 13 ≤ 60 := (p_I1 h).2.2.2.2.2.2.2.2.2.2.2.2.2.1
theorem l_11 (h : RA w b A c K) : c 11 ≤ 512 := Nat.le_trans (p_I1 h).2.2.2.2.2.2.2.2.2.2.2.1 (p_I1 h).2.2.2.2.2.2.2.2.2.2.2.2.2.2
theorem l_K (h : RA w b A c K) : c 11 ≤ K ∧ K ≤ 512 := ⟨(p_I1 h).2.2.2.2.2.2.2.2.2.2.2.1, (p_I1 h).2.2.2.2.2.2.2.2.2.2.2.2.2.2⟩
end PR
section AC
variable {w : jW} {A : Nat → Int32} {c : Nat → Nat} {K : Nat}
theorem rt_jr {R W cap cnt base st n : Nat} {cm : Nat → Nat} (h : RT w R W cap A cnt base st cm) (hn : A cnt = nI n) (hn2 : n < 2 ^ 31) (hc : cap ≤ 3000) : JR w R W cap n := by
  obtain ⟨n', h1, h2, h3⟩ := h
  have e : n' = n := (nI_eq (by have := h2.2.2.1; omega) hn2).mp (h1.symm.trans hn)
  subst e
  exact h2
theorem j_si (h : RA w 3 A c K) : JR w 6 5 10 (c 1) := rt_jr (p_Rsite h) (h_1 h) (by have := l_1 h; omega) (by omega)
theorem n_si (h : RA w 3 A c K) : f_Rows_count 6 w = some (nI (c 1), w) := r_count (j_si h)
theorem s_si (h : RA w 3 A c K) (x : Int32) : f_Rows_has 6 x w = some (b2 (¬ x < 0 ∧ x < nI (c 1)), w) := r_has (j_si h) x
theorem u_si (h : RA w 3 A c K) : f_Rows_isFull 6 w = some (b2 (c 1 = 10), w) := r_full (j_si h)
theorem x_si (h : RA w 3 A c K) {x y : Int32} (hx : x < 0 ∨ ¬ x < nI (c 1)) : f_Rows_at 6 x y w = some (-1, w) := r_at_row (j_si h) hx
theorem y_si (h : RA w 3 A c K) {x y : Int32} (hy : y < 0 ∨ ¬ y < nI 5) : f_Rows_at 6 x y w = some (-1, w) := r_at_col (j_si h) hy
theorem a_si0 (h : RA w 3 A c K) {i : Nat} (hi : i < c 1) : f_Rows_at 6 (nI i) 0 w = some (A (40 + 8 * i), w) := rt_at (j := 0) (p_Rsite h) (h_1 h) (by have := l_1 h; omega) (by omega) hi (by omega) (by decide)
theorem a_si1 (h : RA w 3 A c K) {i : Nat} (hi : i < c 1) : f_Rows_at 6 (nI i) 1 w = some (A (40 + 8 * i + 1), w) := rt_at (j := 1) (p_Rsite h) (h_1 h) (by have := l_1 h; omega) (by omega) hi (by omega) (by decide)
theorem a_si2 (h : RA w 3 A c K) {i : Nat} (hi : i < c 1) : f_Rows_at 6 (nI i) 2 w = some (A (40 + 8 * i + 2), w) := rt_at (j := 2) (p_Rsite h) (h_1 h) (by have := l_1 h; omega) (by omega) hi (by omega) (by decide)
theorem a_si3 (h : RA w 3 A c K) {i : Nat} (hi : i < c 1) : f_Rows_at 6 (nI i) 3 w = some (A (40 + 8 * i + 3), w) := rt_at (j := 3) (p_Rsite h) (h_1 h) (by have := l_1 h; omega) (by omega) hi (by omega) (by decide)
theorem a_si4 (h : RA w 3 A c K) {i : Nat} (hi : i < c 1) : f_Rows_at 6 (nI i) 4 w = some (A (40 + 8 * i + 4), w) := rt_at (j := 4) (p_Rsite h) (h_1 h) (by have := l_1 h; omega) (by omega) hi (by omega) (by decide)
theorem j_th (h : RA w 3 A c K) : JR w 10 11 40 (c 3) := rt_jr (p_Rthing h) (h_3 h) (by have := l_3 h; omega) (by omega)
theorem n_th (h : RA w 3 A c K) : f_Rows_count 10 w = some (nI (c 3), w) := r_count (j_th h)
theorem s_th (h : RA w 3 A c K) (x : Int32) : f_Rows_has 10 x w = some (b2 (¬ x < 0 ∧ x < nI (c 3)), w) := r_has (j_th h) x
theorem u_th (h : RA w 3 A c K) : f_Rows_isFull 10 w = some (b2 (c 3 = 40), w) := r_full (j_th h)
theorem x_th (h : RA w 3 A c K) {x y : Int32} (hx : x < 0 ∨ ¬ x < nI (c 3)) : f_Rows_at 10 x y w = some (-1, w) := r_at_row (j_th h) hx
theorem y_th (h : RA w 3 A c K) {x y : Int32} (hy : y < 0 ∨ ¬ y < nI 11) : f_Rows_at 10 x y w = some (-1, w) := r_at_col (j_th h) hy
theorem a_th0 (h : RA w 3 A c K) {i : Nat} (hi : i < c 3) : f_Rows_at 10 (nI i) 0 w = some (A (240 + 12 * i), w) := rt_at (j := 0) (p_Rthing h) (h_3 h) (by have := l_3 h; omega) (by omega) hi (by omega) (by decide)
theorem a_th1 (h : RA w 3 A c K) {i : Nat} (hi : i < c 3) : f_Rows_at 10 (nI i) 1 w = some (A (240 + 12 * i + 1), w) := rt_at (j := 1) (p_Rthing h) (h_3 h) (by have := l_3 h; omega) (by omega) hi (by omega) (by decide)
theorem a_th2 (h : RA w 3 A c K) {i : Nat} (hi : i < c 3) : f_Rows_at 10 (nI i) 2 w = some (A (240 + 12 * i + 2), w) := rt_at (j := 2) (p_Rthing h) (h_3 h) (by have := l_3 h; omega) (by omega) hi (by omega) (by decide)
theorem a_th3 (h : RA w 3 A c K) {i : Nat} (hi : i < c 3) : f_Rows_at 10 (nI i) 3 w = some (A (240 + 12 * i + 3), w) := rt_at (j := 3) (p_Rthing h) (h_3 h) (by have := l_3 h; omega) (by omega) hi (by omega) (by decide)
theorem a_th4 (h : RA w 3 A c K) {i : Nat} (hi : i < c 3) : f_Rows_at 10 (nI i) 4 w = some (A (240 + 12 * i + 4), w) := rt_at (j := 4) (p_Rthing h) (h_3 h) (by have := l_3 h; omega) (by omega) hi (by omega) (by decide)
theorem a_th5 (h : RA w 3 A c K) {i : Nat} (hi : i < c 3) : f_Rows_at 10 (nI i) 5 w = some (A (240 + 12 * i + 6), w) := rt_at (j := 5) (p_Rthing h) (h_3 h) (by have := l_3 h; omega) (by omega) hi (by omega) (by decide)
theorem a_th6 (h : RA w 3 A c K) {i : Nat} (hi : i < c 3) : f_Rows_at 10 (nI i) 6 w = some (w.1 11 (i * 11 + 6), w) := rt_raw (j := 6) (p_Rthing h) (h_3 h) (by have := l_3 h; omega) (by omega) hi (by omega)
theorem a_th7 (h : RA w 3 A c K) {i : Nat} (hi : i < c 3) : f_Rows_at 10 (nI i) 7 w = some (A (240 + 12 * i + 5), w) := rt_at (j := 7) (p_Rthing h) (h_3 h) (by have := l_3 h; omega) (by omega) hi (by omega) (by decide)
theorem a_th8 (h : RA w 3 A c K) {i : Nat} (hi : i < c 3) : f_Rows_at 10 (nI i) 8 w = some (w.1 11 (i * 11 + 8), w) := rt_raw (j := 8) (p_Rthing h) (h_3 h) (by have := l_3 h; omega) (by omega) hi (by omega)
theorem a_th9 (h : RA w 3 A c K) {i : Nat} (hi : i < c 3) : f_Rows_at 10 (nI i) 9 w = some (A (240 + 12 * i + 8), w) := rt_at (j := 9) (p_Rthing h) (h_3 h) (by have := l_3 h; omega) (by omega) hi (by omega) (by decide)
theorem a_th10 (h : RA w 3 A c K) {i : Nat} (hi : i < c 3) : f_Rows_at 10 (nI i) 10 w = some (A (240 + 12 * i + 7), w) := rt_at (j := 10) (p_Rthing h) (h_3 h) (by have := l_3 h; omega) (by omega) hi (by omega) (by decide)
theorem j_mv (h : RA w 3 A c K) : JR w 12 6 100 (c 4) := rt_jr (p_Rmove h) (h_4 h) (by have := l_4 h; omega) (by omega)
theorem n_mv (h : RA w 3 A c K) : f_Rows_count 12 w = some (nI (c 4), w) := r_count (j_mv h)
theorem s_mv (h : RA w 3 A c K) (x : Int32) : f_Rows_has 12 x w = some (b2 (¬ x < 0 ∧ x < nI (c 4)), w) := r_has (j_mv h) x
theorem u_mv (h : RA w 3 A c K) : f_Rows_isFull 12 w = some (b2 (c 4 = 100), w) := r_full (j_mv h)
theorem x_mv (h : RA w 3 A c K) {x y : Int32} (hx : x < 0 ∨ ¬ x < nI (c 4)) : f_Rows_at 12 x y w = some (-1, w) := r_at_row (j_mv h) hx
theorem y_mv (h : RA w 3 A c K) {x y : Int32} (hy : y < 0 ∨ ¬ y < nI 6) : f_Rows_at 12 x y w = some (-1, w) := r_at_col (j_mv h) hy
theorem a_mv0 (h : RA w 3 A c K) {i : Nat} (hi : i < c 4) : f_Rows_at 12 (nI i) 0 w = some (A (720 + 8 * i), w) := rt_at (j := 0) (p_Rmove h) (h_4 h) (by have := l_4 h; omega) (by omega) hi (by omega) (by decide)
theorem a_mv1 (h : RA w 3 A c K) {i : Nat} (hi : i < c 4) : f_Rows_at 12 (nI i) 1 w = some (A (720 + 8 * i + 2), w) := rt_at (j := 1) (p_Rmove h) (h_4 h) (by have := l_4 h; omega) (by omega) hi (by omega) (by decide)
theorem a_mv2 (h : RA w 3 A c K) {i : Nat} (hi : i < c 4) : f_Rows_at 12 (nI i) 2 w = some (A (720 + 8 * i + 3), w) := rt_at (j := 2) (p_Rmove h) (h_4 h) (by have := l_4 h; omega) (by omega) hi (by omega) (by decide)
theorem a_mv3 (h : RA w 3 A c K) {i : Nat} (hi : i < c 4) : f_Rows_at 12 (nI i) 3 w = some (A (720 + 8 * i + 1), w) := rt_at (j := 3) (p_Rmove h) (h_4 h) (by have := l_4 h; omega) (by omega) hi (by omega) (by decide)
theorem a_mv4 (h : RA w 3 A c K) {i : Nat} (hi : i < c 4) : f_Rows_at 12 (nI i) 4 w = some (A (720 + 8 * i + 4), w) := rt_at (j := 4) (p_Rmove h) (h_4 h) (by have := l_4 h; omega) (by omega) hi (by omega) (by decide)
theorem a_mv5 (h : RA w 3 A c K) {i : Nat} (hi : i < c 4) : f_Rows_at 12 (nI i) 5 w = some (w.1 13 (i * 6 + 5), w) := rt_raw (j := 5) (p_Rmove h) (h_4 h) (by have := l_4 h; omega) (by omega) hi (by omega)
theorem j_sl (h : RA w 3 A c K) : JR w 14 2 40 (c 5) := rt_jr (p_Rseal h) (h_5 h) (by have := l_5 h; omega) (by omega)
theorem n_sl (h : RA w 3 A c K) : f_Rows_count 14 w = some (nI (c 5), w) := r_count (j_sl h)
theorem s_sl (h : RA w 3 A c K) (x : Int32) : f_Rows_has 14 x w = some (b2 (¬ x < 0 ∧ x < nI (c 5)), w) := r_has (j_sl h) x
theorem u_sl (h : RA w 3 A c K) : f_Rows_isFull 14 w = some (b2 (c 5 = 40), w) := r_full (j_sl h)
theorem x_sl (h : RA w 3 A c K) {x y : Int32} (hx : x < 0 ∨ ¬ x < nI (c 5)) : f_Rows_at 14 x y w = some (-1, w) := r_at_row (j_sl h) hx
theorem y_sl (h : RA w 3 A c K) {x y : Int32} (hy : y < 0 ∨ ¬ y < nI 2) : f_Rows_at 14 x y w = some (-1, w) := r_at_col (j_sl h) hy
theorem a_sl0 (h : RA w 3 A c K) {i : Nat} (hi : i < c 5) : f_Rows_at 14 (nI i) 0 w = some (A (1520 + 4 * i), w) := rt_at (j := 0) (p_Rseal h) (h_5 h) (by have := l_5 h; omega) (by omega) hi (by omega) (by decide)
theorem a_sl1 (h : RA w 3 A c K) {i : Nat} (hi : i < c 5) : f_Rows_at 14 (nI i) 1 w = some (A (1520 + 4 * i + 1), w) := rt_at (j := 1) (p_Rseal h) (h_5 h) (by have := l_5 h; omega) (by omega) hi (by omega) (by decide)
theorem j_to (h : RA w 3 A c K) : JR w 24 4 200 (c 7) := rt_jr (p_Rtold h) (h_7 h) (by have := l_7 h; omega) (by omega)
theorem n_to (h : RA w 3 A c K) : f_Rows_count 24 w = some (nI (c 7), w) := r_count (j_to h)
theorem s_to (h : RA w 3 A c K) (x : Int32) : f_Rows_has 24 x w = some (b2 (¬ x < 0 ∧ x < nI (c 7)), w) := r_has (j_to h) x
theorem u_to (h : RA w 3 A c K) : f_Rows_isFull 24 w = some (b2 (c 7 = 200), w) := r_full (j_to h)
theorem x_to (h : RA w 3 A c K) {x y : Int32} (hx : x < 0 ∨ ¬ x < nI (c 7)) : f_Rows_at 24 x y w = some (-1, w) := r_at_row (j_to h) hx
theorem y_to (h : RA w 3 A c K) {x y : Int32} (hy : y < 0 ∨ ¬ y < nI 4) : f_Rows_at 24 x y w = some (-1, w) := r_at_col (j_to h) hy
theorem a_to0 (h : RA w 3 A c K) {i : Nat} (hi : i < c 7) : f_Rows_at 24 (nI i) 0 w = some (A (9680 + 8 * i), w) := rt_at (j := 0) (p_Rtold h) (h_7 h) (by have := l_7 h; omega) (by omega) hi (by omega) (by decide)
theorem a_to1 (h : RA w 3 A c K) {i : Nat} (hi : i < c 7) : f_Rows_at 24 (nI i) 1 w = some (A (9680 + 8 * i + 1), w) := rt_at (j := 1) (p_Rtold h) (h_7 h) (by have := l_7 h; omega) (by omega) hi (by omega) (by decide)
theorem a_to2 (h : RA w 3 A c K) {i : Nat} (hi : i < c 7) : f_Rows_at 24 (nI i) 2 w = some (A (9680 + 8 * i + 2), w) := rt_at (j := 2) (p_Rtold h) (h_7 h) (by have := l_7 h; omega) (by omega) hi (by omega) (by decide)
theorem a_to3 (h : RA w 3 A c K) {i : Nat} (hi : i < c 7) : f_Rows_at 24 (nI i) 3 w = some (A (9680 + 8 * i + 3), w) := rt_at (j := 3) (p_Rtold h) (h_7 h) (by have := l_7 h; omega) (by omega) hi (by omega) (by decide)
theorem j_vi (h : RA w 3 A c K) : JR w 26 10 100 (c 8) := rt_jr (p_Rvis h) (h_8 h) (by have := l_8 h; omega) (by omega)
theorem n_vi (h : RA w 3 A c K) : f_Rows_count 26 w = some (nI (c 8), w) := r_count (j_vi h)
theorem s_vi (h : RA w 3 A c K) (x : Int32) : f_Rows_has 26 x w = some (b2 (¬ x < 0 ∧ x < nI (c 8)), w) := r_has (j_vi h) x
theorem u_vi (h : RA w 3 A c K) : f_Rows_isFull 26 w = some (b2 (c 8 = 100), w) := r_full (j_vi h)
theorem x_vi (h : RA w 3 A c K) {x y : Int32} (hx : x < 0 ∨ ¬ x < nI (c 8)) : f_Rows_at 26 x y w = some (-1, w) := r_at_row (j_vi h) hx
theorem y_vi (h : RA w 3 A c K) {x y : Int32} (hy : y < 0 ∨ ¬ y < nI 10) : f_Rows_at 26 x y w = some (-1, w) := r_at_col (j_vi h) hy
theorem a_vi0 (h : RA w 3 A c K) {i : Nat} (hi : i < c 8) : f_Rows_at 26 (nI i) 0 w = some (A (11280 + 12 * i + 3), w) := rt_at (j := 0) (p_Rvis h) (h_8 h) (by have := l_8 h; omega) (by omega) hi (by omega) (by decide)
theorem a_vi1 (h : RA w 3 A c K) {i : Nat} (hi : i < c 8) : f_Rows_at 26 (nI i) 1 w = some (A (11280 + 12 * i + 4), w) := rt_at (j := 1) (p_Rvis h) (h_8 h) (by have := l_8 h; omega) (by omega) hi (by omega) (by decide)
theorem a_vi2 (h : RA w 3 A c K) {i : Nat} (hi : i < c 8) : f_Rows_at 26 (nI i) 2 w = some (A (11280 + 12 * i + 5), w) := rt_at (j := 2) (p_Rvis h) (h_8 h) (by have := l_8 h; omega) (by omega) hi (by omega) (by decide)
theorem a_vi3 (h : RA w 3 A c K) {i : Nat} (hi : i < c 8) : f_Rows_at 26 (nI i) 3 w = some (A (11280 + 12 * i + 6), w) := rt_at (j := 3) (p_Rvis h) (h_8 h) (by have := l_8 h; omega) (by omega) hi (by omega) (by decide)
theorem a_vi4 (h : RA w 3 A c K) {i : Nat} (hi : i < c 8) : f_Rows_at 26 (nI i) 4 w = some (A (11280 + 12 * i + 7), w) := rt_at (j := 4) (p_Rvis h) (h_8 h) (by have := l_8 h; omega) (by omega) hi (by omega) (by decide)
theorem a_vi5 (h : RA w 3 A c K) {i : Nat} (hi : i < c 8) : f_Rows_at 26 (nI i) 5 w = some (A (11280 + 12 * i + 8), w) := rt_at (j := 5) (p_Rvis h) (h_8 h) (by have := l_8 h; omega) (by omega) hi (by omega) (by decide)
theorem a_vi6 (h : RA w 3 A c K) {i : Nat} (hi : i < c 8) : f_Rows_at 26 (nI i) 6 w = some (A (11280 + 12 * i + 2), w) := rt_at (j := 6) (p_Rvis h) (h_8 h) (by have := l_8 h; omega) (by omega) hi (by omega) (by decide)
theorem a_vi7 (h : RA w 3 A c K) {i : Nat} (hi : i < c 8) : f_Rows_at 26 (nI i) 7 w = some (A (11280 + 12 * i), w) := rt_at (j := 7) (p_Rvis h) (h_8 h) (by have := l_8 h; omega) (by omega) hi (by omega) (by decide)
theorem a_vi8 (h : RA w 3 A c K) {i : Nat} (hi : i < c 8) : f_Rows_at 26 (nI i) 8 w = some (A (11280 + 12 * i + 1), w) := rt_at (j := 8) (p_Rvis h) (h_8 h) (by have := l_8 h; omega) (by omega) hi (by omega) (by decide)
theorem a_vi9 (h : RA w 3 A c K) {i : Nat} (hi : i < c 8) : f_Rows_at 26 (nI i) 9 w = some (w.1 27 (i * 10 + 9), w) := rt_raw (j := 9) (p_Rvis h) (h_8 h) (by have := l_8 h; omega) (by omega) hi (by omega)
theorem j_pc (h : RA w 3 A c K) : JR w 28 3 100 (c 9) := rt_jr (p_Rpic h) (h_9 h) (by have := l_9 h; omega) (by omega)
theorem n_pc (h : RA w 3 A c K) : f_Rows_count 28 w = some (nI (c 9), w) := r_count (j_pc h)
theorem s_pc (h : RA w 3 A c K) (x : Int32) : f_Rows_has 28 x w = some (b2 (¬ x < 0 ∧ x < nI (c 9)), w) := r_has (j_pc h) x
theorem u_pc (h : RA w 3 A c K) : f_Rows_isFull 28 w = some (b2 (c 9 = 100), w) := r_full (j_pc h)
theorem x_pc (h : RA w 3 A c K) {x y : Int32} (hx : x < 0 ∨ ¬ x < nI (c 9)) : f_Rows_at 28 x y w = some (-1, w) := r_at_row (j_pc h) hx
theorem y_pc (h : RA w 3 A c K) {x y : Int32} (hy : y < 0 ∨ ¬ y < nI 3) : f_Rows_at 28 x y w = some (-1, w) := r_at_col (j_pc h) hy
theorem a_pc0 (h : RA w 3 A c K) {i : Nat} (hi : i < c 9) : f_Rows_at 28 (nI i) 0 w = some (A (12480 + 4 * i), w) := rt_at (j := 0) (p_Rpic h) (h_9 h) (by have := l_9 h; omega) (by omega) hi (by omega) (by decide)
theorem a_pc1 (h : RA w 3 A c K) {i : Nat} (hi : i < c 9) : f_Rows_at 28 (nI i) 1 w = some (A (12480 + 4 * i + 1), w) := rt_at (j := 1) (p_Rpic h) (h_9 h) (by have := l_9 h; omega) (by omega) hi (by omega) (by decide)
theorem a_pc2 (h : RA w 3 A c K) {i : Nat} (hi : i < c 9) : f_Rows_at 28 (nI i) 2 w = some (A (12480 + 4 * i + 2), w) := rt_at (j := 2) (p_Rpic h) (h_9 h) (by have := l_9 h; omega) (by omega) hi (by omega) (by decide)
theorem j_qu (h : RA w 3 A c K) : JR w 30 3 50 (c 10) := rt_jr (p_Rque h) (h_10 h) (by have := l_10 h; omega) (by omega)
theorem n_qu (h : RA w 3 A c K) : f_Rows_count 30 w = some (nI (c 10), w) := r_count (j_qu h)
theorem s_qu (h : RA w 3 A c K) (x : Int32) : f_Rows_has 30 x w = some (b2 (¬ x < 0 ∧ x < nI (c 10)), w) := r_has (j_qu h) x
theorem u_qu (h : RA w 3 A c K) : f_Rows_isFull 30 w = some (b2 (c 10 = 50), w) := r_full (j_qu h)
theorem x_qu (h : RA w 3 A c K) {x y : Int32} (hx : x < 0 ∨ ¬ x < nI (c 10)) : f_Rows_at 30 x y w = some (-1, w) := r_at_row (j_qu h) hx
theorem y_qu (h : RA w 3 A c K) {x y : Int32} (hy : y < 0 ∨ ¬ y < nI 3) : f_Rows_at 30 x y w = some (-1, w) := r_at_col (j_qu h) hy
theorem a_qu0 (h : RA w 3 A c K) {i : Nat} (hi : i < c 10) : f_Rows_at 30 (nI i) 0 w = some (A (12880 + 4 * i), w) := rt_at (j := 0) (p_Rque h) (h_10 h) (by have := l_10 h; omega) (by omega) hi (by omega) (by decide)
theorem a_qu1 (h : RA w 3 A c K) {i : Nat} (hi : i < c 10) : f_Rows_at 30 (nI i) 1 w = some (A (12880 + 4 * i + 2), w) := rt_at (j := 1) (p_Rque h) (h_10 h) (by have := l_10 h; omega) (by omega) hi (by omega) (by decide)
theorem a_qu2 (h : RA w 3 A c K) {i : Nat} (hi : i < c 10) : f_Rows_at 30 (nI i) 2 w = some (A (12880 + 4 * i + 3), w) := rt_at (j := 2) (p_Rque h) (h_10 h) (by have := l_10 h; omega) (by omega) hi (by omega) (by decide)
theorem j_ac (h : RA w 3 A c K) : JR w 32 5 512 (c 11) := rt_jr (p_Ract h) (h_11 h) (by have := l_11 h; omega) (by omega)
theorem n_ac (h : RA w 3 A c K) : f_Rows_count 32 w = some (nI (c 11), w) := r_count (j_ac h)
theorem s_ac (h : RA w 3 A c K) (x : Int32) : f_Rows_has 32 x w = some (b2 (¬ x < 0 ∧ x < nI (c 11)), w) := r_has (j_ac h) x
theorem u_ac (h : RA w 3 A c K) : f_Rows_isFull 32 w = some (b2 (c 11 = 512), w) := r_full (j_ac h)
theorem x_ac (h : RA w 3 A c K) {x y : Int32} (hx : x < 0 ∨ ¬ x < nI (c 11)) : f_Rows_at 32 x y w = some (-1, w) := r_at_row (j_ac h) hx
theorem y_ac (h : RA w 3 A c K) {x y : Int32} (hy : y < 0 ∨ ¬ y < nI 5) : f_Rows_at 32 x y w = some (-1, w) := r_at_col (j_ac h) hy
theorem a_ac0 (h : RA w 3 A c K) {i : Nat} (hi : i < c 11) : f_Rows_at 32 (nI i) 0 w = some (A (13080 + 8 * i), w) := rt_at (j := 0) (p_Ract h) (h_11 h) (by have := l_11 h; omega) (by omega) hi (by omega) (by decide)
theorem a_ac1 (h : RA w 3 A c K) {i : Nat} (hi : i < c 11) : f_Rows_at 32 (nI i) 1 w = some (A (13080 + 8 * i + 1), w) := rt_at (j := 1) (p_Ract h) (h_11 h) (by have := l_11 h; omega) (by omega) hi (by omega) (by decide)
theorem a_ac2 (h : RA w 3 A c K) {i : Nat} (hi : i < c 11) : f_Rows_at 32 (nI i) 2 w = some (A (13080 + 8 * i + 2), w) := rt_at (j := 2) (p_Ract h) (h_11 h) (by have := l_11 h; omega) (by omega) hi (by omega) (by decide)
theorem a_ac3 (h : RA w 3 A c K) {i : Nat} (hi : i < c 11) : f_Rows_at 32 (nI i) 3 w = some (w.1 33 (i * 5 + 3), w) := rt_raw (j := 3) (p_Ract h) (h_11 h) (by have := l_11 h; omega) (by omega) hi (by omega)
theorem a_ac4 (h : RA w 3 A c K) {i : Nat} (hi : i < c 11) : f_Rows_at 32 (nI i) 4 w = some (w.1 33 (i * 5 + 4), w) := rt_raw (j := 4) (p_Ract h) (h_11 h) (by have := l_11 h; omega) (by omega) hi (by omega)
theorem j_cl (h : RA w 3 A c K) : JR w 34 2 60 (c 12) := rt_jr (p_Rcld h) (h_12 h) (by have := l_12 h; omega) (by omega)
theorem n_cl (h : RA w 3 A c K) : f_Rows_count 34 w = some (nI (c 12), w) := r_count (j_cl h)
theorem s_cl (h : RA w 3 A c K) (x : Int32) : f_Rows_has 34 x w = some (b2 (¬ x < 0 ∧ x < nI (c 12)), w) := r_has (j_cl h) x
theorem u_cl (h : RA w 3 A c K) : f_Rows_isFull 34 w = some (b2 (c 12 = 60), w) := r_full (j_cl h)
theorem x_cl (h : RA w 3 A c K) {x y : Int32} (hx : x < 0 ∨ ¬ x < nI (c 12)) : f_Rows_at 34 x y w = some (-1, w) := r_at_row (j_cl h) hx
theorem y_cl (h : RA w 3 A c K) {x y : Int32} (hy : y < 0 ∨ ¬ y < nI 2) : f_Rows_at 34 x y w = some (-1, w) := r_at_col (j_cl h) hy
theorem a_cl0 (h : RA w 3 A c K) {i : Nat} (hi : i < c 12) : f_Rows_at 34 (nI i) 0 w = some (A (20760 + 2 * i), w) := rt_at (j := 0) (p_Rcld h) (h_12 h) (by have := l_12 h; omega) (by omega) hi (by omega) (by decide)
theorem a_cl1 (h : RA w 3 A c K) {i : Nat} (hi : i < c 12) : f_Rows_at 34 (nI i) 1 w = some (A (20760 + 2 * i + 1), w) := rt_at (j := 1) (p_Rcld h) (h_12 h) (by have := l_12 h; omega) (by omega) hi (by omega) (by decide)
theorem j_wa (h : RA w 3 A c K) : JR w 36 2 60 (c 13) := rt_jr (p_Rwat h) (h_13 h) (by have := l_13 h; omega) (by omega)
theorem n_wa (h : RA w 3 A c K) : f_Rows_count 36 w = some (nI (c 13), w) := r_count (j_wa h)
theorem s_wa (h : RA w 3 A c K) (x : Int32) : f_Rows_has 36 x w = some (b2 (¬ x < 0 ∧ x < nI (c 13)), w) := r_has (j_wa h) x
theorem u_wa (h : RA w 3 A c K) : f_Rows_isFull 36 w = some (b2 (c 13 = 60), w) := r_full (j_wa h)
theorem x_wa (h : RA w 3 A c K) {x y : Int32} (hx : x < 0 ∨ ¬ x < nI (c 13)) : f_Rows_at 36 x y w = some (-1, w) := r_at_row (j_wa h) hx
theorem y_wa (h : RA w 3 A c K) {x y : Int32} (hy : y < 0 ∨ ¬ y < nI 2) : f_Rows_at 36 x y w = some (-1, w) := r_at_col (j_wa h) hy
theorem a_wa0 (h : RA w 3 A c K) {i : Nat} (hi : i < c 13) : f_Rows_at 36 (nI i) 0 w = some (A (20880 + 2 * i), w) := rt_at (j := 0) (p_Rwat h) (h_13 h) (by have := l_13 h; omega) (by omega) hi (by omega) (by decide)
theorem a_wa1 (h : RA w 3 A c K) {i : Nat} (hi : i < c 13) : f_Rows_at 36 (nI i) 1 w = some (A (20880 + 2 * i + 1), w) := rt_at (j := 1) (p_Rwat h) (h_13 h) (by have := l_13 h; omega) (by omega) hi (by omega) (by decide)
theorem a_so0 (h : RA w 3 A c K) {i : Nat} (hi : i < 4) : f_Rows_at 4 (nI i) 0 w = some (A (20 + 4 * i), w) := by rw [show f_Rows_at 4 (nI i) 0 w = f_Rows_at 4 (nI i) (nI 0) w from rfl, r_at (p_Rsort h).1 hi (by omega)]; exact congrArg (fun z => some (z, w)) ((p_Rsort h).2 i 0 hi (by omega))
theorem a_so1 (h : RA w 3 A c K) {i : Nat} (hi : i < 4) : f_Rows_at 4 (nI i) 1 w = some (A (20 + 4 * i + 1), w) := by rw [show f_Rows_at 4 (nI i) 1 w = f_Rows_at 4 (nI i) (nI 1) w from rfl, r_at (p_Rsort h).1 hi (by omega)]; exact congrArg (fun z => some (z, w)) ((p_Rsort h).2 i 1 hi (by omega))
theorem a_so2 (h : RA w 3 A c K) {i : Nat} (hi : i < 4) : f_Rows_at 4 (nI i) 2 w = some (A (20 + 4 * i + 2), w) := by rw [show f_Rows_at 4 (nI i) 2 w = f_Rows_at 4 (nI i) (nI 2) w from rfl, r_at (p_Rsort h).1 hi (by omega)]; exact congrArg (fun z => some (z, w)) ((p_Rsort h).2 i 2 hi (by omega))
theorem a_so3 (h : RA w 3 A c K) {i : Nat} (hi : i < 4) : f_Rows_at 4 (nI i) 3 w = some (A (20 + 4 * i + 3), w) := by rw [show f_Rows_at 4 (nI i) 3 w = f_Rows_at 4 (nI i) (nI 3) w from rfl, r_at (p_Rsort h).1 hi (by omega)]; exact congrArg (fun z => some (z, w)) ((p_Rsort h).2 i 3 hi (by omega))
end AC
theorem jk_0 : Int32.toNatClampNeg 0 = 0 := by decide
theorem jg_0 : jin 0 21000 = true := by decide
theorem jk_1 : Int32.toNatClampNeg 1 = 1 := by decide
theorem jg_1 : jin 1 21000 = true := by decide
theorem jk_2 : Int32.toNatClampNeg 2 = 2 := by decide
theorem jg_2 : jin 2 21000 = true := by decide
theorem jk_3 : Int32.toNatClampNeg 3 = 3 := by decide
theorem jg_3 : jin 3 21000 = true := by decide
theorem jk_4 : Int32.toNatClampNeg 4 = 4 := by decide
theorem jg_4 : jin 4 21000 = true := by decide
theorem jk_5 : Int32.toNatClampNeg 5 = 5 := by decide
theorem jg_5 : jin 5 21000 = true := by decide
theorem jk_6 : Int32.toNatClampNeg 6 = 6 := by decide
theorem jg_6 : jin 6 21000 = true := by decide
theorem jk_7 : Int32.toNatClampNeg 7 = 7 := by decide
theorem jg_7 : jin 7 21000 = true := by decide
theorem jk_8 : Int32.toNatClampNeg 8 = 8 := by decide
theorem jg_8 : jin 8 21000 = true := by decide
theorem jk_9 : Int32.toNatClampNeg 9 = 9 := by decide
theorem jg_9 : jin 9 21000 = true := by decide
theorem jk_10 : Int32.toNatClampNeg 10 = 10 := by decide
theorem jg_10 : jin 10 21000 = true := by decide
theorem jk_11 : Int32.toNatClampNeg 11 = 11 := by decide
theorem jg_11 : jin 11 21000 = true := by decide
theorem jk_12 : Int32.toNatClampNeg 12 = 12 := by decide
theorem jg_12 : jin 12 21000 = true := by decide
theorem jk_13 : Int32.toNatClampNeg 13 = 13 := by decide
theorem jg_13 : jin 13 21000 = true := by decide
theorem jk_14 : Int32.toNatClampNeg 14 = 14 := by decide
theorem jg_14 : jin 14 21000 = true := by decide
theorem jk_15 : Int32.toNatClampNeg 15 = 15 := by decide
theorem jg_15 : jin 15 21000 = true := by decide
theorem jk_16 : Int32.toNatClampNeg 16 = 16 := by decide
theorem jg_16 : jin 16 21000 = true := by decide
theorem jk_17 : Int32.toNatClampNeg 17 = 17 := by decide
theorem jg_17 : jin 17 21000 = true := by decide
theorem jk_18 : Int32.toNatClampNeg 18 = 18 := by decide
theorem jg_18 : jin 18 21000 = true := by decide
theorem jk_19 : Int32.toNatClampNeg 19 = 19 := by decide
theorem jg_19 : jin 19 21000 = true := by decide
section MA
variable {w : jW}

end MA

