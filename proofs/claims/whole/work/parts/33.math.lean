/-! THE MEASURES AND THE TEXTS, as plain functions (my own) -/
/-- HAIR i runs under the slide s -/
def rn (p q : Nat → Int32) (mg : Int32) (s i : Nat) : Bool := decide (p i ≠ -1) && decide (q ((i + s) % 32) ≠ -1) && decide ((p i).toInt - (q ((i + s) % 32)).toInt ≤ mg.toInt) && decide ((q ((i + s) % 32)).toInt - (p i).toInt ≤ mg.toInt)
def cnt (f : Nat → Bool) : Nat → Nat
  | 0 => 0
  | n + 1 => cnt f n + (if f n then 1 else 0)
def manyF (p q : Nat → Int32) (mg : Int32) (s : Nat) : Nat := cnt (rn p q mg s) 32
/-- the best slide so far and one more than its many (0: none yet) -/
def bst (f : Nat → Nat) : Nat → Nat × Nat
  | 0 => (0, 0)
  | n + 1 => if (bst f n).2 < f n + 1 then (n, f n + 1) else bst f n
def bestF (p q : Nat → Int32) (mg : Int32) : Nat := (bst (manyF p q mg) 32).1
/-- how many run at the end, and the most so far, over n places round -/
def lng (f : Nat → Bool) : Nat → Nat × Nat
  | 0 => (0, 0)
  | n + 1 => let c := if f (n % 32) then (lng f n).1 + 1 else 0; (c, if (lng f n).2 < c then c else (lng f n).2)
def longS (p q : Nat → Int32) (mg : Int32) (s : Nat) : Nat := min 32 (lng (rn p q mg s) 64).2
def longF (p q : Nat → Int32) (mg : Int32) : Nat := longS p q mg (bestF p q mg)
def bestM (p q : Nat → Int32) (mg : Int32) : Nat := manyF p q mg (bestF p q mg)
/-- the most that ran ahead of hair i with at most c changes, at slide s -/
def pcs (f : Nat → Nat → Bool) : Nat → Nat → Nat → Nat
  | 0, _, _ => 0
  | i + 1, 0, s => pcs f i 0 s + (if f s i then 1 else 0)
  | i + 1, c + 1, s => max (pcs f i (c + 1) s) (max (pcs f i c ((s + 31) % 32)) (pcs f i c ((s + 1) % 32))) + (if f s i then 1 else 0)
def maxTo (f : Nat → Nat) : Nat → Nat
  | 0 => 0
  | n + 1 => max (maxTo f n) (f n)
def piecesF (p q : Nat → Int32) (mg : Int32) : Nat := maxTo (fun s => pcs (fun s i => rn p q mg s i) 32 3 s) 32
def missF (p : Nat → Int32) : Nat := cnt (fun i => decide (p i = -1)) 32
/-! texts -/
def two (o x y : Int32) : Int32 := if o = 2 then x + y else if o = 3 then x - y else if o = 4 then x * y else if o = 5 then x / y else if o = 6 then (if x < y then 1 else 0) else if o = 7 then (if x = y then 1 else 0) else if o = 8 then (if y < x then 1 else 0) else if o = 10 then x * y else if 0 < x + y then 1 else 0
def evS (o a : Int32) (fx : Nat → Int32) (st : List Int32) : List Int32 := if o = 0 then a :: st else if o = 1 then fx a.toNatClampNeg :: st else if o = 9 then (match st with | x :: r => (1 - x) :: r | [] => []) else match st with | y :: x :: r => two o x y :: r | r => r
def ev (op ar : Nat → Int32) (fx : Nat → Int32) : Nat → Nat → List Int32 → List Int32
  | _, 0, st => st
  | k, n + 1, st => ev op ar fx (k + 1) n (evS (op k) (ar k) fx st)
/-- the worth of the codes k .. e -/
def wrt (op ar : Nat → Int32) (fx : Nat → Int32) (k e : Nat) : Int32 := (ev op ar fx k (e - k) []).headD 0
/-- kinds of worth: 0 a number, 1 yes or no, 2 a number that stands there and isn't 0 -/
def ckS (lo hi : Nat) (o a : Int32) (st : List Nat) : Option (List Nat) := if o = 0 then (if st.length < 32 ∧ 0 ≤ a then some ((if a = 0 then 0 else 2) :: st) else none) else if o = 1 then (if st.length < 32 ∧ 0 ≤ a ∧ nI lo ≤ a ∧ a < nI hi then some (0 :: st) else none) else if o = 9 then (match st with | 1 :: r => some (1 :: r) | _ => none) else if o = 5 then (match st with | 2 :: x :: r => if x ≠ 1 then some (0 :: r) else none | _ => none) else if o = 2 ∨ o = 3 ∨ o = 4 then (match st with | y :: x :: r => if x ≠ 1 ∧ y ≠ 1 then some (0 :: r) else none | _ => none) else if o = 6 ∨ o = 7 ∨ o = 8 then (match st with | y :: x :: r => if x ≠ 1 ∧ y ≠ 1 then some (1 :: r) else none | _ => none) else if o = 10 ∨ o = 11 then (match st with | 1 :: 1 :: r => some (1 :: r) | _ => none) else none
def ck (lo hi : Nat) (op ar : Nat → Int32) : Nat → Nat → List Nat → Option (List Nat)
  | _, 0, st => some st
  | k, n + 1, st => (ckS lo hi (op k) (ar k) st).bind (ck lo hi op ar (k + 1) n)
/-- the class's step for a code of the reference -/
def stp (o a : Int32) : Int32 := if o = 0 then -1 - a else if o = 1 then 265 + a else if o = 2 then 43 else if o = 3 then 45 else if o = 4 then 42 else if o = 5 then 47 else if o = 6 then 60 else if o = 7 then 61 else if o = 8 then 62 else if o = 9 then 258 else if o = 10 then 257 else 256
/-- the class's text t tells what the reference's row r tells; facts lo .. hi may be asked, lines of sorts slo .. shi -/
def TR (I : Nat → Nat → Int32) (t r lo hi slo shi : Nat) : Prop := ∃ n z : Nat, n ≤ 16 ∧ z ≤ 600 ∧ I (20 + 8 * t) 7 = nI n ∧ I (20 + 8 * t) 6 = nI z ∧ I 426 r = nI n ∧ (∀ k, k < z → I (20 + 8 * t + 5) k = stp (I 431 (600 * r + k)) (I 432 (600 * r + k))) ∧ (I (20 + 8 * t) 8 = 0 ∨ I (20 + 8 * t) 8 = 1) ∧ (I (20 + 8 * t) 8 = 0 → ∀ k, k < z → ¬ (I 431 (600 * r + k) = 1 ∧ I 432 (600 * r + k) = 11)) ∧ ∀ i, i < n → ∃ f s e so : Nat, f ≤ s ∧ s ≤ e ∧ e ≤ z ∧ slo ≤ so ∧ so < shi ∧ I 427 (16 * r + i) = nI so ∧ I (20 + 8 * t + 1) i = nI (260 + so) ∧ I 428 (16 * r + i) = nI f ∧ I (20 + 8 * t + 2) i = nI f ∧ I 429 (16 * r + i) = nI s ∧ I (20 + 8 * t + 3) i = nI s ∧ I 430 (16 * r + i) = nI e ∧ I (20 + 8 * t + 4) i = nI e ∧ ((so < 3 ∧ ∃ y, y ≠ 1 ∧ ck lo hi (I 431) (I 432) (600 * r + f) (s - f) [] = some [y]) ∨ (3 ≤ so ∧ f = s ∧ s < e)) ∧ (s < e → ck lo hi (I 431) (I 432) (600 * r + s) (e - s) [] = some [1])
/-- what is asked of two rows: best, longest, slide, pieces, lack, told -/
def asksF (p q : Nat → Int32) (mg : Int32) (told : Nat) (f : Nat) : Int32 := if f = 8 then nI (bestM p q mg) else if f = 9 then nI (longF p q mg) else if f = 10 then nI (bestF p q mg) else if f = 11 then nI (piecesF p q mg) else if f = 12 then nI (missF p + missF q) else if f = 13 then nI told else 0
/-- what the lines k .. of row r say: 1 same, 0 not, 2 none -/
def sayL (I : Nat → Nat → Int32) (fx : Nat → Int32) (r : Nat) : Nat → Nat → Nat
  | _, 0 => 2
  | i, n + 1 => if wrt (I 431) (I 432) fx (600 * r + (I 429 (16 * r + i)).toNatClampNeg) (600 * r + (I 430 (16 * r + i)).toNatClampNeg) ≠ 0 then (if I 427 (16 * r + i) = 3 then 1 else 0) else sayL I fx r (i + 1) n
def row (I : Nat → Nat → Int32) (a : Nat) : Nat → Int32 := fun j => I 414 (32 * a + j)
def sayF (I : Nat → Nat → Int32) (l a b told : Nat) : Nat := sayL I (asksF (row I a) (row I b) (I 447 l) told) (1 + l) 0 (I 426 (1 + l)).toNatClampNeg
def CX (I : Nat → Nat → Int32) (D : DD) : Prop := TR I (D.tx 1) 0 0 8 0 3 ∧ ∀ l, l < D.nL → TR I (D.tx (2 + l)) (1 + l) 8 14 3 5
/-- a number that is kept of two balls by the class -/
def enc (m s g mf pc pf s0 s1 : Nat) : Nat := m + 64 * s + 2048 * g + 131072 * mf + 262144 * pc + 16777216 * pf + 33554432 * s0 + 134217728 * s1
def CK (I : Nat → Nat → Int32) (D : DD) : Prop := ∀ l a b, l < D.nL → a < 40 → b < 40 → ((D.nA ≤ a ∨ D.nA ≤ b) → I (240 + 2 * l + 1) (40 * a + b) = 0) ∧ (a < D.nA → b < D.nA → ∃ m s g mf pc pf s0 s1 : Nat, I (240 + 2 * l + 1) (40 * a + b) = nI (enc m s g mf pc pf s0 s1) ∧ ((mf = 0 ∧ m = 0 ∧ s = 0 ∧ g = 0) ∨ (mf = 1 ∧ m = bestM (row I a) (row I b) (I 447 l) ∧ s = bestF (row I a) (row I b) (I 447 l) ∧ g = longF (row I a) (row I b) (I 447 l))) ∧ ((pf = 0 ∧ pc = 0) ∨ (pf = 1 ∧ pc = piecesF (row I a) (row I b) (I 447 l))) ∧ (s0 = 0 ∨ s0 = sayF I l a b 0 + 1) ∧ (s1 = 0 ∨ s1 = sayF I l a b 1 + 1))
/-- what the reference keeps, if it is of the version that stands -/
def CV (I : Nat → Nat → Int32) (D : DD) : Prop := I 400 49 = I 400 17 → (∀ t l a b, t < 2 → l < 6 → a < 40 → b < 40 → I 451 (9600 * t + 1600 * l + 40 * a + b) = 0 ∨ (l < D.nL ∧ a < D.nA ∧ b < D.nA ∧ I 451 (9600 * t + 1600 * l + 40 * a + b) = nI (1 + sayF I l a b t))) ∧ ∀ l a b, l < 6 → a < 40 → b < 40 → I 452 (1600 * l + 40 * a + b) = 0 ∨ (l < D.nL ∧ a < D.nA ∧ b < D.nA ∧ I 452 (1600 * l + 40 * a + b) = nI (1 + longF (row I a) (row I b) (I 447 l)))
/-- versions only grow, by one a call at most -/
def CVv (I : Nat → Nat → Int32) (n : Nat) : Prop := ∃ v : Nat, v ≤ n ∧ I 400 17 = nI v ∧ (I 400 49 = -1 ∨ ∃ w : Nat, w ≤ v ∧ I 400 49 = nI w)
def wordsL : List Nat := [32, 99, 117, 116, 32, 119, 101, 97, 114, 32, 116, 97, 107, 101, 32, 115, 97, 109, 101, 32, 110, 111, 116, 32, 119, 104, 101, 110, 32, 111, 114, 32, 97, 110, 100, 32, 110, 111, 32, 97, 116, 32, 104, 105, 103, 104, 32, 108, 101, 102, 116, 32, 114, 105, 103, 104, 116, 32, 100, 114, 97, 119, 32, 115, 104, 111, 116, 115, 32, 114, 117, 115, 116, 32, 115, 111, 102, 116, 32, 98, 101, 115, 116, 32, 108, 111, 110, 103, 101, 115, 116, 32, 115, 108, 105, 100, 101, 32, 112, 105, 101, 99, 101, 115, 32, 108, 97, 99, 107, 32, 116, 111, 108, 100, 32]
def CW (I : Nat → Nat → Int32) : Prop := ∀ j, j < 115 → I 425 j = nI (wordsL.getD j 0)
/-- the whole, after at most n calls -/
def InvI (n : Nat) (I : Nat → Nat → Int32) (L : Nat → Nat → Int64) (D : DD) : Prop := InvD D ∧ CC (I 1) (I 400) D ∧ CT I D ∧ CTz I D ∧ CB I D ∧ CA I D ∧ CL I D ∧ CP I D ∧ CS L ∧ CF I ∧ CX I D ∧ CK I D ∧ CV I D ∧ CVv I n ∧ CW I
def Inv (n : Nat) (g : Hp) : Prop := ∃ I L D, g = fm I L D ∧ InvI n I L D
