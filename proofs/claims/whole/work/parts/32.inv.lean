/-! WHAT HOLDS BETWEEN THE CALLS (my own): class (names below 400) and reference (400 and on) tell the same -/
def gunI (g : Option Nat) : Int32 := match g with
  | none => -1
  | some b => nI b
def nFound (D : DD) : Nat → Nat
  | 0 => 0
  | n + 1 => nFound D n + (if D.gun n = none then 1 else 0)
def InvD (D : DD) : Prop := D.nT ≤ 6 ∧ D.nB ≤ 16 ∧ D.nA ≤ 40 ∧ D.nL ≤ 6 ∧ D.nP ≤ 10 ∧ (∀ i b, i < D.nA → D.gun i = some b → b < D.nB) ∧ (∀ k, k < D.nP → D.pa k < D.nA ∧ D.pb k < D.nA ∧ D.pa k ≠ D.pb k) ∧ (∀ u, u < 2 + D.nL → D.tx u < 2 + D.nL) ∧ (∀ u w, u < 2 + D.nL → w < 2 + D.nL → D.tx u = D.tx w → u = w)
/-- the counts: the object's fields, and the reference's -/
def CC (x m : Nat → Int32) (D : DD) : Prop := x 1 = nI D.nT ∧ m 1 = nI D.nT ∧ x 3 = nI D.nB ∧ m 5 = nI D.nB ∧ x 5 = nI D.nA ∧ m 12 = nI D.nA ∧ x 8 = nI D.nL ∧ m 45 = nI D.nL ∧ x 10 = nI D.nP ∧ m 53 = nI D.nP ∧ x 6 = nI (nFound D D.nA)
/-- tools -/
def CT (I : Nat → Nat → Int32) (D : DD) : Prop := ∀ i, i < D.nT → (∀ j, j < 32 → I (100 + 2 * i + 1) j = I 403 (32 * i + j) ∧ inN (I 403 (32 * i + j)) 64) ∧ I (100 + 2 * i) 1 = I 404 i ∧ I (100 + 2 * i) 2 = I 405 i
/-- tools that are not yet there have cut nothing -/
def CTz (I : Nat → Nat → Int32) (D : DD) : Prop := ∀ i, D.nT ≤ i → i < 6 → I 405 i = 0
/-- barrels -/
def CB (I : Nat → Nat → Int32) (D : DD) : Prop := ∀ i, i < D.nB → (∀ j, j < 32 → I (120 + 2 * i + 1) j = I 407 (32 * i + j) ∧ inN (I 407 (32 * i + j)) 64) ∧ I (120 + 2 * i) 0 = nI i ∧ I (120 + 2 * i) 1 = I 409 i ∧ inN (I 409 i) D.nT ∧ I (120 + 2 * i) 2 = I 410 i ∧ I (120 + 2 * i) 4 = I 408 i ∧ I (120 + 2 * i) 5 = I 411 i ∧ I (120 + 2 * i) 6 = I 412 i
/-- balls -/
def CA (I : Nat → Nat → Int32) (D : DD) : Prop := ∀ i, i < D.nA → (∀ j, j < 32 → I (160 + 2 * i + 1) j = I 414 (32 * i + j) ∧ (-1 ≤ I 414 (32 * i + j) ∧ I 414 (32 * i + j) ≤ 63)) ∧ I (160 + 2 * i) 0 = nI i ∧ I 415 i = gunI (D.gun i) ∧ I (160 + 2 * i) 2 = I 416 i ∧ I (160 + 2 * i) 3 = I 417 i
/-- lookers' margins -/
def CL (I : Nat → Nat → Int32) (D : DD) : Prop := ∀ l, (l < D.nL → I (240 + 2 * l) 0 = I 447 l ∧ inN (I 447 l) 16) ∧ (D.nL ≤ l → l < 6 → I 426 (1 + l) = 0)
/-- pairs -/
def CP (I : Nat → Nat → Int32) (D : DD) : Prop := ∀ k, k < D.nP → I (260 + k) 2 = I 457 k ∧ (1 ≤ I 457 k ∧ I 457 k ≤ 99) ∧ I 455 k = nI (D.pa k) ∧ I 456 k = nI (D.pb k)
/-- scenes -/
def CS (L : Nat → Nat → Int64) : Prop := ∀ s, s < 8 → L 7 s = L 459 s
/-- the tape, and the latest fault -/
def CF (I : Nat → Nat → Int32) : Prop := (∃ n : Nat, n ≤ 600 ∧ I 8 1 = nI n ∧ I 400 19 = nI n ∧ ∀ j, j < n → I 9 j = I 419 j ∧ inN (I 419 j) 256) ∧ I 12 0 = I 400 39 ∧ I 12 1 = I 400 40
