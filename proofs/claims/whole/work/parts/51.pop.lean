/-! Integer.bitCount counts bits (my own) -/
theorem and_split {a b c d : Nat} (ha : a < 256) (hc : c < 256) : (256 * b + a) &&& (256 * d + c) = 256 * (b &&& d) + (a &&& c) := by
  apply Nat.eq_of_testBit_eq
  intro i
  have hac : a &&& c < 2 ^ 8 := Nat.lt_of_le_of_lt Nat.and_le_left ha
  rw [Nat.testBit_and, show (256 : Nat) = 2 ^ 8 from rfl, Nat.testBit_two_pow_mul_add _ ha, Nat.testBit_two_pow_mul_add _ hc, Nat.testBit_two_pow_mul_add _ hac]
  by_cases h : i < 8
  · rw [if_pos h, if_pos h, if_pos h, Nat.testBit_and]
  · rw [if_neg h, if_neg h, if_neg h, Nat.testBit_and]
theorem and4 {a b c d m : Nat} (ha : a < 256) (hb : b < 256) (hc : c < 256) (hm : m < 256) : (a + 256 * b + 65536 * c + 16777216 * d) &&& (m + 256 * m + 65536 * m + 16777216 * m) = (a &&& m) + 256 * (b &&& m) + 65536 * (c &&& m) + 16777216 * (d &&& m) := by
  rw [show a + 256 * b + 65536 * c + 16777216 * d = 256 * (256 * (256 * d + c) + b) + a by omega, show m + 256 * m + 65536 * m + 16777216 * m = 256 * (256 * (256 * m + m) + m) + m by omega, and_split ha hm, and_split hb hm, and_split hc hm]
  omega
def pop8 (a : Nat) : Nat := cnt (fun i => a.testBit i) 8
def st1 (a : Nat) : Nat := a - (a / 2 &&& 85)
def st2 (a : Nat) : Nat := (a &&& 51) + (a / 4 &&& 51)
def st3 (a : Nat) : Nat := (a + a / 16) % 16
theorem pop_a : ∀ a, a < 256 → (a / 2 &&& 85) ≤ a ∧ st1 a < 256 ∧ st2 (st1 a) < 256 ∧ st2 (st1 a) % 16 ≤ 4 ∧ st2 (st1 a) / 16 ≤ 4 ∧ st3 (st2 (st1 a)) = pop8 a ∧ pop8 a ≤ 8 := by decide +kernel
theorem pop_b : ∀ e, e < 2 → ∀ a, a < 256 → (a / 2 + 128 * e) &&& 85 = a / 2 &&& 85 := by decide +kernel
theorem pop_c : ∀ e, e < 4 → ∀ a, a < 256 → (a / 4 + 64 * e) &&& 51 = a / 4 &&& 51 := by decide +kernel
theorem pop_d (x : Nat) : x &&& 15 = x % 16 := Nat.and_two_pow_sub_one_eq_mod x 4
theorem pop_e (x : Nat) : x &&& 63 = x % 64 := Nat.and_two_pow_sub_one_eq_mod x 6
theorem pop4 {a b c d : Nat} (ha : a < 256) (hb : b < 256) (hc : c < 256) (hd : d < 256) : ∃ v1 v2 v3 v4 v5 : Nat, (a + 256 * b + 65536 * c + 16777216 * d) - ((a + 256 * b + 65536 * c + 16777216 * d) / 2 &&& 1431655765) = v1 ∧ (v1 &&& 858993459) + (v1 / 4 &&& 858993459) = v2 ∧ ((v2 + v2 / 16) &&& 252645135) = v3 ∧ v3 + v3 / 256 = v4 ∧ v4 + v4 / 65536 = v5 ∧ v5 &&& 63 = pop8 a + pop8 b + pop8 c + pop8 d ∧ ((a + 256 * b + 65536 * c + 16777216 * d) / 2 &&& 1431655765) ≤ a + 256 * b + 65536 * c + 16777216 * d ∧ v1 < 4294967296 ∧ v2 < 4294967296 ∧ v2 + v2 / 16 < 4294967296 ∧ v3 < 4294967296 ∧ v4 < 4294967296 ∧ v5 < 4294967296 := by
  obtain ⟨a1, a2, a3, a4, a5, a6, a7⟩ := pop_a a ha
  obtain ⟨b1, b2, b3, b4, b5, b6, b7⟩ := pop_a b hb
  obtain ⟨c1, c2, c3, c4, c5, c6, c7⟩ := pop_a c hc
  obtain ⟨d1, d2, d3, d4, d5, d6, d7⟩ := pop_a d hd
  have s1 : (a + 256 * b + 65536 * c + 16777216 * d) / 2 &&& 1431655765 = (a / 2 &&& 85) + 256 * (b / 2 &&& 85) + 65536 * (c / 2 &&& 85) + 16777216 * (d / 2 &&& 85) := by
    rw [show (a + 256 * b + 65536 * c + 16777216 * d) / 2 = (a / 2 + 128 * (b % 2)) + 256 * (b / 2 + 128 * (c % 2)) + 65536 * (c / 2 + 128 * (d % 2)) + 16777216 * (d / 2) by omega, show 1431655765 = 85 + 256 * 85 + 65536 * 85 + 16777216 * 85 from rfl, and4 (by omega) (by omega) (by omega) (by omega), pop_b (b % 2) (by omega) a ha, pop_b (c % 2) (by omega) b hb, pop_b (d % 2) (by omega) c hc]
  have e1 : (a + 256 * b + 65536 * c + 16777216 * d) - ((a / 2 &&& 85) + 256 * (b / 2 &&& 85) + 65536 * (c / 2 &&& 85) + 16777216 * (d / 2 &&& 85)) = st1 a + 256 * st1 b + 65536 * st1 c + 16777216 * st1 d := by
    unfold st1; omega
  refine ⟨st1 a + 256 * st1 b + 65536 * st1 c + 16777216 * st1 d, st2 (st1 a) + 256 * st2 (st1 b) + 65536 * st2 (st1 c) + 16777216 * st2 (st1 d), pop8 a + 256 * pop8 b + 65536 * pop8 c + 16777216 * pop8 d, (pop8 a + pop8 b) + 256 * (pop8 b + pop8 c) + 65536 * (pop8 c + pop8 d) + 16777216 * pop8 d, (pop8 a + pop8 b + pop8 c + pop8 d) + 256 * (pop8 b + pop8 c + pop8 d) + 65536 * (pop8 c + pop8 d) + 16777216 * pop8 d, ?_, ?_, ?_, by omega, by omega, ?_, ?_, by omega, by omega, ?_, by omega, by omega, by omega⟩
  · rw [s1, e1]
  · generalize st1 a = x at *
    generalize st1 b = y at *
    generalize st1 c = z at *
    generalize st1 d = w at *
    rw [show (x + 256 * y + 65536 * z + 16777216 * w) / 4 = (x / 4 + 64 * (y % 4)) + 256 * (y / 4 + 64 * (z % 4)) + 65536 * (z / 4 + 64 * (w % 4)) + 16777216 * (w / 4) by omega, show 858993459 = 51 + 256 * 51 + 65536 * 51 + 16777216 * 51 from rfl, and4 (by omega) (by omega) (by omega) (by omega), and4 (by omega) (by omega) (by omega) (by omega), pop_c (y % 4) (by omega) x a2, pop_c (z % 4) (by omega) y b2, pop_c (w % 4) (by omega) z c2]
    unfold st2
    omega
  · rw [← a6, ← b6, ← c6, ← d6]
    generalize st2 (st1 a) = x at *
    generalize st2 (st1 b) = y at *
    generalize st2 (st1 c) = z at *
    generalize st2 (st1 d) = w at *
    rw [show (x + 256 * y + 65536 * z + 16777216 * w) + (x + 256 * y + 65536 * z + 16777216 * w) / 16 = (x + x / 16 + 16 * (y % 16)) + 256 * (y + y / 16 + 16 * (z % 16)) + 65536 * (z + z / 16 + 16 * (w % 16)) + 16777216 * (w + w / 16) by omega, show 252645135 = 15 + 256 * 15 + 65536 * 15 + 16777216 * 15 from rfl, and4 (by omega) (by omega) (by omega) (by omega), pop_d, pop_d, pop_d, pop_d]
    unfold st3
    omega
  · rw [pop_e]; omega
  · rw [s1]; omega
  · omega
theorem bt_tb (x : Int32) (i : Nat) : bt x i = x.toBitVec.toNat.testBit i := rfl
theorem cnt8 (N : Nat) (k : Nat) : cnt (fun i => N.testBit i) (k + 8) = cnt (fun i => N.testBit i) k + pop8 (N / 2 ^ k % 256) := by
  have e : ∀ i, i < 8 → N.testBit (k + i) = (N / 2 ^ k % 256).testBit i := by
    intro i hi
    rw [show (256 : Nat) = 2 ^ 8 from rfl, Nat.testBit_mod_two_pow, decide_eq_true hi, Bool.true_and, Nat.testBit_div_two_pow, Nat.add_comm]
  unfold pop8
  simp only [cnt]
  have e0 : N.testBit k = (N / 2 ^ k % 256).testBit 0 := e 0 (by decide)
  simp only [e0, e 1 (by decide), e 2 (by decide), e 3 (by decide), e 4 (by decide), e 5 (by decide), e 6 (by decide), e 7 (by decide)]
  simp only [Nat.zero_add, Nat.add_assoc]
theorem j_bitCount {x : Int32} {h : Hp} {Q : Int32 → Hp → Prop} : wp_J6_bitCount_0f7a4 x h Q ↔ Q (nI (cnt (bt x) 32)) h := by
  have key : ∃ z, (wp_J6_bitCount_0f7a4 x h Q ↔ Q z h) ∧ z = nI (cnt (bt x) 32) := by
    unfold wp_J6_bitCount_0f7a4
    simp only [forall_eq]
    refine ⟨_, Iff.rfl, ?_⟩
    apply Int32.toBitVec_inj.mp
    apply BitVec.eq_of_toNat_eq
    have hN := x.toBitVec.isLt
    generalize hn : x.toBitVec.toNat = N at hN
    obtain ⟨v1, v2, v3, v4, v5, p1, p2, p3, p4, p5, p6, p7, p8, p9, p10, p11, p12, p13⟩ := pop4 (a := N % 256) (b := N / 256 % 256) (c := N / 65536 % 256) (d := N / 16777216) (by omega) (by omega) (by omega) (by omega)
    rw [show N % 256 + 256 * (N / 256 % 256) + 65536 * (N / 65536 % 256) + 16777216 * (N / 16777216) = N by omega] at p1 p7
    have us : ∀ (y : Int32) (k : Int32) (j : Nat), ((k.toUInt32 &&& Int32.toUInt32 31).toBitVec % 32).toNat = j → ((y.toUInt32 >>> (k.toUInt32 &&& Int32.toUInt32 31)).toInt32).toBitVec.toNat = y.toBitVec.toNat / 2 ^ j := fun y k j hj => pk_ushr y k j hj
    have an : ∀ (y m : Int32), (y &&& m).toBitVec.toNat = y.toBitVec.toNat &&& m.toBitVec.toNat := fun y m => by rw [Int32.toBitVec_and, BitVec.toNat_and]
    have adn : ∀ (y m : Int32), y.toBitVec.toNat + m.toBitVec.toNat < 4294967296 → (y + m).toBitVec.toNat = y.toBitVec.toNat + m.toBitVec.toNat := fun y m hh => by rw [Int32.toBitVec_add, BitVec.toNat_add]; exact Nat.mod_eq_of_lt hh
    have sbn : ∀ (y m : Int32), m.toBitVec.toNat ≤ y.toBitVec.toNat → (y - m).toBitVec.toNat = y.toBitVec.toNat - m.toBitVec.toNat := fun y m hh => by
      rw [Int32.toBitVec_sub, BitVec.toNat_sub]
      have := y.toBitVec.isLt
      have := m.toBitVec.isLt
      omega
    have c1 : (1431655765 : Int32).toBitVec.toNat = 1431655765 := by decide
    have c2 : (858993459 : Int32).toBitVec.toNat = 858993459 := by decide
    have c3 : (252645135 : Int32).toBitVec.toNat = 252645135 := by decide
    have c4 : (63 : Int32).toBitVec.toNat = 63 := by decide
    generalize hz1 : x - ((x.toUInt32 >>> ((1 : Int32).toUInt32 &&& Int32.toUInt32 31)).toInt32 &&& 1431655765) = z1
    have t1 : z1.toBitVec.toNat = v1 := by
      rw [← hz1, sbn _ _ (by rw [an, us _ _ 1 (by decide), c1, hn]; exact p7), an, us _ _ 1 (by decide), c1, hn]; exact p1
    generalize hz2 : (z1 &&& 858993459) + ((z1.toUInt32 >>> ((2 : Int32).toUInt32 &&& Int32.toUInt32 31)).toInt32 &&& 858993459) = z2
    have t2 : z2.toBitVec.toNat = v2 := by
      rw [← hz2, adn _ _ (by rw [an, an, us _ _ 2 (by decide), c2, t1]; show _ + (v1 / 4 &&& _) < _; rw [p2]; exact p9), an, an, us _ _ 2 (by decide), c2, t1]; exact p2
    generalize hz3 : (z2 + (z2.toUInt32 >>> ((4 : Int32).toUInt32 &&& Int32.toUInt32 31)).toInt32) &&& 252645135 = z3
    have t3 : z3.toBitVec.toNat = v3 := by
      rw [← hz3, an, adn _ _ (by rw [us _ _ 4 (by decide), t2]; exact p10), us _ _ 4 (by decide), c3, t2]; exact p3
    generalize hz4 : z3 + (z3.toUInt32 >>> ((8 : Int32).toUInt32 &&& Int32.toUInt32 31)).toInt32 = z4
    have t4 : z4.toBitVec.toNat = v4 := by
      rw [← hz4, adn _ _ (by rw [us _ _ 8 (by decide), t3]; show v3 + v3 / 256 < _; rw [p4]; exact p12), us _ _ 8 (by decide), t3]; exact p4
    generalize hz5 : z4 + (z4.toUInt32 >>> ((16 : Int32).toUInt32 &&& Int32.toUInt32 31)).toInt32 = z5
    have t5 : z5.toBitVec.toNat = v5 := by
      rw [← hz5, adn _ _ (by rw [us _ _ 16 (by decide), t4]; show v4 + v4 / 65536 < _; rw [p5]; exact p13), us _ _ 16 (by decide), t4]; exact p5
    rw [an, t5, c4, p6, pk_tn (by have := cnt_le (bt x) 32; omega)]
    have hb : bt x = fun i => N.testBit i := by funext i; rw [bt_tb, hn]
    rw [hb]
    have k1 := cnt8 N 0
    have k2 := cnt8 N 8
    have k3 := cnt8 N 16
    have k4 := cnt8 N 24
    simp only [Nat.zero_add] at k1
    rw [k4, k3, k2, k1]
    rw [show N / 2 ^ 24 % 256 = N / 16777216 by omega, show N / 2 ^ 16 % 256 = N / 65536 % 256 by omega, show N / 2 ^ 8 % 256 = N / 256 % 256 by omega, show N / 2 ^ 0 % 256 = N % 256 by omega]
    show _ = cnt (fun i => N.testBit i) 0 + _ + _ + _ + _
    rw [show cnt (fun i => N.testBit i) 0 = 0 from rfl]
    omega
  obtain ⟨z, h1, h2⟩ := key
  rw [h1, h2]
