/-! THE FLAT MEMORY: kinds and references of all names, by the counts D (my own) -/
abbrev DD : Type := (Nat × Nat × Nat × Nat × Nat) × (Nat → Option Nat) × (Nat → Nat) × (Nat → Nat) × (Nat → Nat)
abbrev DD.nT (D : DD) : Nat := D.1.1
abbrev DD.nB (D : DD) : Nat := D.1.2.1
abbrev DD.nA (D : DD) : Nat := D.1.2.2.1
abbrev DD.nL (D : DD) : Nat := D.1.2.2.2.1
abbrev DD.nP (D : DD) : Nat := D.1.2.2.2.2
abbrev DD.gun (D : DD) : Nat → Option Nat := D.2.1
abbrev DD.pa (D : DD) : Nat → Nat := D.2.2.1
abbrev DD.pb (D : DD) : Nat → Nat := D.2.2.2.1
abbrev DD.tx (D : DD) : Nat → Nat := D.2.2.2.2
def Kst (l : Nat) : Nat × Nat := match l with | 1 => (29, 0) | 2 => (10, 6) | 3 => (4, 16) | 4 => (3, 40) | 5 => (5, 6) | 6 => (6, 10) | 7 => (2, 8) | 8 => (26, 0) | 9 => (1, 600) | 10 => (1, 601) | 11 => (1, 601) | 12 => (24, 0) | 13 => (28, 0) | 14 => (1, 14) | 15 => (1, 32) | 16 => (1, 32) | 17 => (1, 128) | 18 => (1, 10) | 19 => (1, 8) | _ => (0, 0)
def Kmo (l : Nat) : Nat × Nat := match l with | 400 => (30, 0) | 403 => (1, 192) | 404 => (1, 6) | 405 => (1, 6) | 407 => (1, 512) | 408 => (1, 16) | 409 => (1, 16) | 410 => (1, 16) | 411 => (1, 16) | 412 => (1, 16) | 414 => (1, 1280) | 415 => (1, 40) | 416 => (1, 40) | 417 => (1, 40) | 419 => (1, 600) | 425 => (1, 115) | 426 => (1, 8) | 427 => (1, 128) | 428 => (1, 128) | 429 => (1, 128) | 430 => (1, 128) | 431 => (1, 4800) | 432 => (1, 4800) | 436 => (1, 40) | 442 => (1, 14) | 443 => (1, 620) | 445 => (1, 32) | 447 => (1, 6) | 448 => (1, 128) | 449 => (1, 128) | 451 => (1, 19200) | 452 => (1, 9600) | 453 => (1, 40) | 455 => (1, 10) | 456 => (1, 10) | 457 => (1, 10) | 458 => (1, 6) | 459 => (2, 8) | 460 => (1, 8) | _ => (0, 0)
def Ktx (r : Nat) : Nat × Nat := match r with | 0 => (25, 0) | 1 => (1, 16) | 2 => (1, 16) | 3 => (1, 16) | 4 => (1, 16) | 5 => (1, 600) | 6 => (1, 32) | _ => (0, 0)
def K2 (n i r : Nat) (a b : Nat × Nat) : Nat × Nat := if i < n then (if r = 0 then a else b) else (0, 0)
def Kf (D : DD) (l : Nat) : Nat × Nat := if l < 20 then Kst l else if l < 84 then (if (l - 20) / 8 < 2 + D.nL then Ktx ((l - 20) % 8) else (0, 0)) else if l < 100 then (0, 0) else if l < 112 then K2 D.nT ((l - 100) / 2) ((l - 100) % 2) (27, 0) (1, 32) else if l < 120 then (0, 0) else if l < 152 then K2 D.nB ((l - 120) / 2) ((l - 120) % 2) (21, 0) (1, 32) else if l < 160 then (0, 0) else if l < 240 then K2 D.nA ((l - 160) / 2) ((l - 160) % 2) (20, 0) (1, 32) else if l < 252 then K2 D.nL ((l - 240) / 2) ((l - 240) % 2) (22, 0) (1, 1600) else if l < 260 then (0, 0) else if l < 270 then (if l - 260 < D.nP then (23, 0) else (0, 0)) else if l < 400 then (0, 0) else Kmo l
def R1 (D : DD) (k : Nat) : Option Nat := match k with | 0 => some 2 | 2 => some 3 | 4 => some 4 | 7 => some 5 | 9 => some 6 | 11 => some 7 | 12 => some 8 | 13 => some 12 | 14 => some (20 + 8 * D.tx 1) | 15 => some 13 | _ => none
def Rmo (k : Nat) : Option Nat := match k with | 2 => some 403 | 3 => some 404 | 4 => some 405 | 6 => some 407 | 7 => some 408 | 8 => some 409 | 9 => some 410 | 10 => some 411 | 11 => some 412 | 13 => some 414 | 14 => some 415 | 15 => some 416 | 16 => some 417 | 18 => some 419 | 24 => some 425 | 25 => some 426 | 26 => some 427 | 27 => some 428 | 28 => some 429 | 29 => some 430 | 30 => some 431 | 31 => some 432 | 35 => some 436 | 41 => some 442 | 42 => some 443 | 44 => some 445 | 46 => some 447 | 47 => some 448 | 48 => some 449 | 50 => some 451 | 51 => some 452 | 52 => some 453 | 54 => some 455 | 55 => some 456 | 56 => some 457 | 57 => some 458 | 58 => some 459 | 59 => some 460 | _ => none
def Rst (D : DD) (l k : Nat) : Option Nat := match l with | 1 => R1 D k | 2 => if k < D.nT then some (100 + 2 * k) else none | 3 => if k < D.nB then some (120 + 2 * k) else none | 4 => if k < D.nA then some (160 + 2 * k) else none | 5 => if k < D.nL then some (240 + 2 * k) else none | 6 => if k < D.nP then some (260 + k) else none | 8 => (match k with | 0 => some 9 | 2 => some 10 | 3 => some 11 | _ => none) | 12 => (match k with | 2 => some 8 | 3 => some (20 + 8 * D.tx 0) | _ => none) | 13 => (match k with | 0 => some 14 | 1 => some 15 | 2 => some 16 | 3 => some 17 | 4 => some 18 | 5 => some 19 | _ => none) | _ => none
def Rf (D : DD) (l k : Nat) : Option Nat := if l < 20 then Rst D l k else if l < 84 then (if (l - 20) / 8 < 2 + D.nL ∧ (l - 20) % 8 = 0 ∧ k < 6 then some (l + 1 + k) else none) else if l < 100 then none else if l < 112 then (if (l - 100) / 2 < D.nT ∧ (l - 100) % 2 = 0 ∧ k = 0 then some (l + 1) else none) else if l < 120 then none else if l < 152 then (if (l - 120) / 2 < D.nB ∧ (l - 120) % 2 = 0 ∧ k = 3 then some (l + 1) else none) else if l < 160 then none else if l < 240 then (if (l - 160) / 2 < D.nA ∧ (l - 160) % 2 = 0 then (match k with | 1 => (D.gun ((l - 160) / 2)).map (fun b => 120 + 2 * b) | 4 => some (l + 1) | _ => none) else none) else if l < 252 then (if (l - 240) / 2 < D.nL ∧ (l - 240) % 2 = 0 then (match k with | 1 => some (20 + 8 * D.tx (2 + (l - 240) / 2)) | 2 => some (l + 1) | _ => none) else none) else if l < 260 then none else if l < 270 then (if l - 260 < D.nP then (match k with | 0 => some (160 + 2 * D.pa (l - 260)) | 1 => some (160 + 2 * D.pb (l - 260)) | _ => none) else none) else if l = 400 then Rmo k else none
def fm (I : Nat → Nat → Int32) (L : Nat → Nat → Int64) (D : DD) : Hp := (I, L, Rf D, Kf D)
def up2 {α : Type} (I : Nat → Nat → α) (a k : Nat) (v : α) : Nat → Nat → α := fun b j => if b = a ∧ j = k then v else I b j
section FM
variable {I : Nat → Nat → Int32} {L : Nat → Nat → Int64} {D : DD} {a k b j i : Nat}
theorem gI : hpI (fm I L D) a k = I a k := rfl
theorem gL : hpL (fm I L D) a k = L a k := rfl
theorem gR_ : hpR (fm I L D) a k = Rf D a k := rfl
theorem gK : hpK (fm I L D) a = Kf D a := rfl
theorem g_stI {v : Int32} : stI (fm I L D) a k v = fm (up2 I a k v) L D := rfl
theorem g_stL {v : Int64} : stL (fm I L D) a k v = fm I (up2 L a k v) D := rfl
theorem up2_s {α : Type} {J : Nat → Nat → α} {v : α} : up2 J a k v a k = v := by simp [up2]
theorem up2_a {α : Type} {J : Nat → Nat → α} {v : α} (h : b ≠ a) : up2 J a k v b j = J b j := by simp [up2, h]
theorem up2_k {α : Type} {J : Nat → Nat → α} {v : α} (h : j ≠ k) : up2 J a k v b j = J b j := by simp [up2, h]
theorem Kf_1 : Kf D 1 = (29, 0) := rfl
theorem Kf_2 : Kf D 2 = (10, 6) := rfl
theorem Kf_3 : Kf D 3 = (4, 16) := rfl
theorem Kf_4 : Kf D 4 = (3, 40) := rfl
theorem Kf_5 : Kf D 5 = (5, 6) := rfl
theorem Kf_6 : Kf D 6 = (6, 10) := rfl
theorem Kf_7 : Kf D 7 = (2, 8) := rfl
theorem Kf_8 : Kf D 8 = (26, 0) := rfl
theorem Kf_9 : Kf D 9 = (1, 600) := rfl
theorem Kf_10 : Kf D 10 = (1, 601) := rfl
theorem Kf_11 : Kf D 11 = (1, 601) := rfl
theorem Kf_12 : Kf D 12 = (24, 0) := rfl
theorem Kf_13 : Kf D 13 = (28, 0) := rfl
theorem Kf_14 : Kf D 14 = (1, 14) := rfl
theorem Kf_15 : Kf D 15 = (1, 32) := rfl
theorem Kf_16 : Kf D 16 = (1, 32) := rfl
theorem Kf_17 : Kf D 17 = (1, 128) := rfl
theorem Kf_18 : Kf D 18 = (1, 10) := rfl
theorem Kf_19 : Kf D 19 = (1, 8) := rfl
theorem Kf_400 : Kf D 400 = (30, 0) := rfl
theorem Kf_403 : Kf D 403 = (1, 192) := rfl
theorem Kf_404 : Kf D 404 = (1, 6) := rfl
theorem Kf_405 : Kf D 405 = (1, 6) := rfl
theorem Kf_407 : Kf D 407 = (1, 512) := rfl
theorem Kf_408 : Kf D 408 = (1, 16) := rfl
theorem Kf_409 : Kf D 409 = (1, 16) := rfl
theorem Kf_410 : Kf D 410 = (1, 16) := rfl
theorem Kf_411 : Kf D 411 = (1, 16) := rfl
theorem Kf_412 : Kf D 412 = (1, 16) := rfl
theorem Kf_414 : Kf D 414 = (1, 1280) := rfl
theorem Kf_415 : Kf D 415 = (1, 40) := rfl
theorem Kf_416 : Kf D 416 = (1, 40) := rfl
theorem Kf_417 : Kf D 417 = (1, 40) := rfl
theorem Kf_419 : Kf D 419 = (1, 600) := rfl
theorem Kf_425 : Kf D 425 = (1, 115) := rfl
theorem Kf_426 : Kf D 426 = (1, 8) := rfl
theorem Kf_427 : Kf D 427 = (1, 128) := rfl
theorem Kf_428 : Kf D 428 = (1, 128) := rfl
theorem Kf_429 : Kf D 429 = (1, 128) := rfl
theorem Kf_430 : Kf D 430 = (1, 128) := rfl
theorem Kf_431 : Kf D 431 = (1, 4800) := rfl
theorem Kf_432 : Kf D 432 = (1, 4800) := rfl
theorem Kf_436 : Kf D 436 = (1, 40) := rfl
theorem Kf_442 : Kf D 442 = (1, 14) := rfl
theorem Kf_443 : Kf D 443 = (1, 620) := rfl
theorem Kf_445 : Kf D 445 = (1, 32) := rfl
theorem Kf_447 : Kf D 447 = (1, 6) := rfl
theorem Kf_448 : Kf D 448 = (1, 128) := rfl
theorem Kf_449 : Kf D 449 = (1, 128) := rfl
theorem Kf_451 : Kf D 451 = (1, 19200) := rfl
theorem Kf_452 : Kf D 452 = (1, 9600) := rfl
theorem Kf_453 : Kf D 453 = (1, 40) := rfl
theorem Kf_455 : Kf D 455 = (1, 10) := rfl
theorem Kf_456 : Kf D 456 = (1, 10) := rfl
theorem Kf_457 : Kf D 457 = (1, 10) := rfl
theorem Kf_458 : Kf D 458 = (1, 6) := rfl
theorem Kf_459 : Kf D 459 = (2, 8) := rfl
theorem Kf_460 : Kf D 460 = (1, 8) := rfl
theorem Rf_1_0 : Rf D 1 0 = some 2 := rfl
theorem Rf_1_2 : Rf D 1 2 = some 3 := rfl
theorem Rf_1_4 : Rf D 1 4 = some 4 := rfl
theorem Rf_1_7 : Rf D 1 7 = some 5 := rfl
theorem Rf_1_9 : Rf D 1 9 = some 6 := rfl
theorem Rf_1_11 : Rf D 1 11 = some 7 := rfl
theorem Rf_1_12 : Rf D 1 12 = some 8 := rfl
theorem Rf_1_13 : Rf D 1 13 = some 12 := rfl
theorem Rf_1_14 : Rf D 1 14 = some (20 + 8 * D.tx 1) := rfl
theorem Rf_1_15 : Rf D 1 15 = some 13 := rfl
theorem Rf_400_2 : Rf D 400 2 = some 403 := rfl
theorem Rf_400_3 : Rf D 400 3 = some 404 := rfl
theorem Rf_400_4 : Rf D 400 4 = some 405 := rfl
theorem Rf_400_6 : Rf D 400 6 = some 407 := rfl
theorem Rf_400_7 : Rf D 400 7 = some 408 := rfl
theorem Rf_400_8 : Rf D 400 8 = some 409 := rfl
theorem Rf_400_9 : Rf D 400 9 = some 410 := rfl
theorem Rf_400_10 : Rf D 400 10 = some 411 := rfl
theorem Rf_400_11 : Rf D 400 11 = some 412 := rfl
theorem Rf_400_13 : Rf D 400 13 = some 414 := rfl
theorem Rf_400_14 : Rf D 400 14 = some 415 := rfl
theorem Rf_400_15 : Rf D 400 15 = some 416 := rfl
theorem Rf_400_16 : Rf D 400 16 = some 417 := rfl
theorem Rf_400_18 : Rf D 400 18 = some 419 := rfl
theorem Rf_400_24 : Rf D 400 24 = some 425 := rfl
theorem Rf_400_25 : Rf D 400 25 = some 426 := rfl
theorem Rf_400_26 : Rf D 400 26 = some 427 := rfl
theorem Rf_400_27 : Rf D 400 27 = some 428 := rfl
theorem Rf_400_28 : Rf D 400 28 = some 429 := rfl
theorem Rf_400_29 : Rf D 400 29 = some 430 := rfl
theorem Rf_400_30 : Rf D 400 30 = some 431 := rfl
theorem Rf_400_31 : Rf D 400 31 = some 432 := rfl
theorem Rf_400_35 : Rf D 400 35 = some 436 := rfl
theorem Rf_400_41 : Rf D 400 41 = some 442 := rfl
theorem Rf_400_42 : Rf D 400 42 = some 443 := rfl
theorem Rf_400_44 : Rf D 400 44 = some 445 := rfl
theorem Rf_400_46 : Rf D 400 46 = some 447 := rfl
theorem Rf_400_47 : Rf D 400 47 = some 448 := rfl
theorem Rf_400_48 : Rf D 400 48 = some 449 := rfl
theorem Rf_400_50 : Rf D 400 50 = some 451 := rfl
theorem Rf_400_51 : Rf D 400 51 = some 452 := rfl
theorem Rf_400_52 : Rf D 400 52 = some 453 := rfl
theorem Rf_400_54 : Rf D 400 54 = some 455 := rfl
theorem Rf_400_55 : Rf D 400 55 = some 456 := rfl
theorem Rf_400_56 : Rf D 400 56 = some 457 := rfl
theorem Rf_400_57 : Rf D 400 57 = some 458 := rfl
theorem Rf_400_58 : Rf D 400 58 = some 459 := rfl
theorem Rf_400_59 : Rf D 400 59 = some 460 := rfl
theorem Rf_8_0 : Rf D 8 0 = some 9 := rfl
theorem Rf_8_2 : Rf D 8 2 = some 10 := rfl
theorem Rf_8_3 : Rf D 8 3 = some 11 := rfl
theorem Rf_12_2 : Rf D 12 2 = some 8 := rfl
theorem Rf_12_3 : Rf D 12 3 = some (20 + 8 * D.tx 0) := rfl
theorem Rf_13_0 : Rf D 13 0 = some 14 := rfl
theorem Rf_13_1 : Rf D 13 1 = some 15 := rfl
theorem Rf_13_2 : Rf D 13 2 = some 16 := rfl
theorem Rf_13_3 : Rf D 13 3 = some 17 := rfl
theorem Rf_13_4 : Rf D 13 4 = some 18 := rfl
theorem Rf_13_5 : Rf D 13 5 = some 19 := rfl
theorem Rf_2 : Rf D 2 k = if k < D.nT then some (100 + 2 * k) else none := rfl
theorem Rf_3 : Rf D 3 k = if k < D.nB then some (120 + 2 * k) else none := rfl
theorem Rf_4 : Rf D 4 k = if k < D.nA then some (160 + 2 * k) else none := rfl
theorem Rf_5 : Rf D 5 k = if k < D.nL then some (240 + 2 * k) else none := rfl
theorem Rf_6 : Rf D 6 k = if k < D.nP then some (260 + k) else none := rfl
theorem Kf_tool (h : i < D.nT) (hm : D.nT ≤ 6) : Kf D (100 + 2 * i) = (27, 0) := by
  have e1 : (100 + 2 * i - 100) / 2 = i := by omega
  have e2 : (100 + 2 * i - 100) % 2 = 0 := by omega
  unfold Kf K2
  simp only [e1, e2, h, if_true]
  repeat (first | rw [if_neg (by omega)] | rw [if_pos (by omega)])
theorem Kf_toolr (h : i < D.nT) (hm : D.nT ≤ 6) : Kf D (100 + 2 * i + 1) = (1, 32) := by
  have e1 : (100 + 2 * i + 1 - 100) / 2 = i := by omega
  have e2 : (100 + 2 * i + 1 - 100) % 2 = 1 := by omega
  unfold Kf K2
  simp only [e1, e2, h, if_true]
  repeat (first | rw [if_neg (by omega)] | rw [if_pos (by omega)])
theorem Kf_bar (h : i < D.nB) (hm : D.nB ≤ 16) : Kf D (120 + 2 * i) = (21, 0) := by
  have e1 : (120 + 2 * i - 120) / 2 = i := by omega
  have e2 : (120 + 2 * i - 120) % 2 = 0 := by omega
  unfold Kf K2
  simp only [e1, e2, h, if_true]
  repeat (first | rw [if_neg (by omega)] | rw [if_pos (by omega)])
theorem Kf_barr (h : i < D.nB) (hm : D.nB ≤ 16) : Kf D (120 + 2 * i + 1) = (1, 32) := by
  have e1 : (120 + 2 * i + 1 - 120) / 2 = i := by omega
  have e2 : (120 + 2 * i + 1 - 120) % 2 = 1 := by omega
  unfold Kf K2
  simp only [e1, e2, h, if_true]
  repeat (first | rw [if_neg (by omega)] | rw [if_pos (by omega)])
theorem Kf_ball (h : i < D.nA) (hm : D.nA ≤ 40) : Kf D (160 + 2 * i) = (20, 0) := by
  have e1 : (160 + 2 * i - 160) / 2 = i := by omega
  have e2 : (160 + 2 * i - 160) % 2 = 0 := by omega
  unfold Kf K2
  simp only [e1, e2, h, if_true]
  repeat (first | rw [if_neg (by omega)] | rw [if_pos (by omega)])
theorem Kf_ballr (h : i < D.nA) (hm : D.nA ≤ 40) : Kf D (160 + 2 * i + 1) = (1, 32) := by
  have e1 : (160 + 2 * i + 1 - 160) / 2 = i := by omega
  have e2 : (160 + 2 * i + 1 - 160) % 2 = 1 := by omega
  unfold Kf K2
  simp only [e1, e2, h, if_true]
  repeat (first | rw [if_neg (by omega)] | rw [if_pos (by omega)])
theorem Kf_look (h : i < D.nL) (hm : D.nL ≤ 6) : Kf D (240 + 2 * i) = (22, 0) := by
  have e1 : (240 + 2 * i - 240) / 2 = i := by omega
  have e2 : (240 + 2 * i - 240) % 2 = 0 := by omega
  unfold Kf K2
  simp only [e1, e2, h, if_true]
  repeat (first | rw [if_neg (by omega)] | rw [if_pos (by omega)])
theorem Kf_lookr (h : i < D.nL) (hm : D.nL ≤ 6) : Kf D (240 + 2 * i + 1) = (1, 1600) := by
  have e1 : (240 + 2 * i + 1 - 240) / 2 = i := by omega
  have e2 : (240 + 2 * i + 1 - 240) % 2 = 1 := by omega
  unfold Kf K2
  simp only [e1, e2, h, if_true]
  repeat (first | rw [if_neg (by omega)] | rw [if_pos (by omega)])
theorem Kf_pair (h : i < D.nP) (hm : D.nP ≤ 10) : Kf D (260 + i) = (23, 0) := by
  have e1 : 260 + i - 260 = i := by omega
  unfold Kf
  simp only [e1, h, if_true]
  repeat (first | rw [if_neg (by omega)] | rw [if_pos (by omega)])
theorem Kf_text {t r : Nat} (h : t < 2 + D.nL) (hm : D.nL ≤ 6) (hr : r < 8) : Kf D (20 + 8 * t + r) = Ktx r := by
  have e1 : (20 + 8 * t + r - 20) / 8 = t := by omega
  have e2 : (20 + 8 * t + r - 20) % 8 = r := by omega
  unfold Kf
  simp only [e1, e2, h, if_true]
  repeat (first | rw [if_neg (by omega)] | rw [if_pos (by omega)])
theorem Rf_text {t : Nat} (h : t < 2 + D.nL) (hm : D.nL ≤ 6) (hk : k < 6) : Rf D (20 + 8 * t) k = some (20 + 8 * t + 1 + k) := by
  have e1 : (20 + 8 * t - 20) / 8 = t := by omega
  have e2 : (20 + 8 * t - 20) % 8 = 0 := by omega
  unfold Rf
  simp only [e1, e2, h, hk, and_self, if_true]
  repeat (first | rw [if_neg (by omega)] | rw [if_pos (by omega)])
theorem Rf_tool (h : i < D.nT) (hm : D.nT ≤ 6) : Rf D (100 + 2 * i) 0 = some (100 + 2 * i + 1) := by
  have e1 : (100 + 2 * i - 100) / 2 = i := by omega
  have e2 : (100 + 2 * i - 100) % 2 = 0 := by omega
  unfold Rf
  simp only [e1, e2, h, and_self, if_true]
  repeat (first | rw [if_neg (by omega)] | rw [if_pos (by omega)])
theorem Rf_bar (h : i < D.nB) (hm : D.nB ≤ 16) : Rf D (120 + 2 * i) 3 = some (120 + 2 * i + 1) := by
  have e1 : (120 + 2 * i - 120) / 2 = i := by omega
  have e2 : (120 + 2 * i - 120) % 2 = 0 := by omega
  unfold Rf
  simp only [e1, e2, h, and_self, if_true]
  repeat (first | rw [if_neg (by omega)] | rw [if_pos (by omega)])
theorem Rf_ball (h : i < D.nA) (hm : D.nA ≤ 40) : Rf D (160 + 2 * i) 4 = some (160 + 2 * i + 1) := by
  have e1 : (160 + 2 * i - 160) / 2 = i := by omega
  have e2 : (160 + 2 * i - 160) % 2 = 0 := by omega
  unfold Rf
  simp only [e1, e2, h, and_self, if_true]
  repeat (first | rw [if_neg (by omega)] | rw [if_pos (by omega)])
theorem Rf_look (h : i < D.nL) (hm : D.nL ≤ 6) : Rf D (240 + 2 * i) 2 = some (240 + 2 * i + 1) := by
  have e1 : (240 + 2 * i - 240) / 2 = i := by omega
  have e2 : (240 + 2 * i - 240) % 2 = 0 := by omega
  unfold Rf
  simp only [e1, e2, h, and_self, if_true]
  repeat (first | rw [if_neg (by omega)] | rw [if_pos (by omega)])
theorem Rf_gun (h : i < D.nA) (hm : D.nA ≤ 40) : Rf D (160 + 2 * i) 1 = (D.gun i).map (fun b => 120 + 2 * b) := by
  have e1 : (160 + 2 * i - 160) / 2 = i := by omega
  have e2 : (160 + 2 * i - 160) % 2 = 0 := by omega
  unfold Rf
  simp only [e1, e2, h, and_self, if_true]
  repeat (first | rw [if_neg (by omega)] | rw [if_pos (by omega)])
theorem Rf_judg (h : i < D.nL) (hm : D.nL ≤ 6) : Rf D (240 + 2 * i) 1 = some (20 + 8 * D.tx (2 + i)) := by
  have e1 : (240 + 2 * i - 240) / 2 = i := by omega
  have e2 : (240 + 2 * i - 240) % 2 = 0 := by omega
  unfold Rf
  simp only [e1, e2, h, and_self, if_true]
  repeat (first | rw [if_neg (by omega)] | rw [if_pos (by omega)])
theorem Rf_pair0 (h : i < D.nP) (hm : D.nP ≤ 10) : Rf D (260 + i) 0 = some (160 + 2 * D.pa i) := by
  have e1 : 260 + i - 260 = i := by omega
  unfold Rf
  simp only [e1, h, if_true]
  repeat (first | rw [if_neg (by omega)] | rw [if_pos (by omega)])
theorem Rf_pair1 (h : i < D.nP) (hm : D.nP ≤ 10) : Rf D (260 + i) 1 = some (160 + 2 * D.pb i) := by
  have e1 : 260 + i - 260 = i := by omega
  unfold Rf
  simp only [e1, h, if_true]
  repeat (first | rw [if_neg (by omega)] | rw [if_pos (by omega)])
end FM
theorem ad_s {a : Nat} : ad (some a) = a := rfl
theorem okO_s {h : Hp} {a ci : Nat} : okO h (some a) ci ↔ (hpK h a).1 = 20 + ci := ⟨fun q => q.2, fun q => ⟨rfl, q⟩⟩
theorem okA_s {h : Hp} {a kd : Nat} {i : Int32} : okA h (some a) kd i ↔ (hpK h a).1 = kd ∧ vp_in i (hpK h a).2 := ⟨fun q => q.2, fun q => ⟨rfl, q⟩⟩
theorem okN_s {h : Hp} {a kd : Nat} : okN h (some a) kd ↔ (hpK h a).1 = kd := ⟨fun q => q.2, fun q => ⟨rfl, q⟩⟩
