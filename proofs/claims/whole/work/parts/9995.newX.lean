/-! the heap behind OneBarrel's constructor, and behind both (my own) -/
def is1 : List (Nat × Nat × Int32) := [(12, 1, (-1))]
def rs1 : List (Nat × Nat × Nat) := [(1, 15, 13), (13, 5, 19), (13, 4, 18), (13, 3, 17), (13, 2, 16), (13, 1, 15), (13, 0, 14), (1, 14, 28), (28, 5, 34), (28, 4, 33), (28, 3, 32), (28, 2, 31), (28, 1, 30), (28, 0, 29), (1, 13, 12), (12, 2, 8), (12, 3, 20), (20, 5, 26), (20, 4, 25), (20, 3, 24), (20, 2, 23), (20, 1, 22), (20, 0, 21), (1, 12, 8), (8, 3, 11), (8, 2, 10), (8, 0, 9), (1, 11, 7), (1, 9, 6), (1, 7, 5), (1, 4, 4), (1, 2, 3), (1, 0, 2)]
def ks1 : List (Nat × Nat × Nat) := [(19, 1, 8), (18, 1, 10), (17, 1, 128), (16, 1, 32), (15, 1, 32), (14, 1, 14), (13, 28, 0), (34, 1, 32), (33, 1, 600), (32, 1, 16), (31, 1, 16), (30, 1, 16), (29, 1, 16), (28, 25, 0), (26, 1, 32), (25, 1, 600), (24, 1, 16), (23, 1, 16), (22, 1, 16), (21, 1, 16), (20, 25, 0), (12, 24, 0), (11, 1, 601), (10, 1, 601), (9, 1, 600), (8, 26, 0), (7, 2, 8), (6, 6, 10), (5, 5, 6), (4, 3, 40), (3, 4, 16), (2, 10, 6), (1, 29, 0)]
def isF : List (Nat × Nat × Int32) := [(400, 49, (-1)), (400, 40, (-1)), (425, 114, 32), (425, 113, 100), (425, 112, 108), (425, 111, 111), (425, 110, 116), (425, 109, 32), (425, 108, 107), (425, 107, 99), (425, 106, 97), (425, 105, 108), (425, 104, 32), (425, 103, 115), (425, 102, 101), (425, 101, 99), (425, 100, 101), (425, 99, 105), (425, 98, 112), (425, 97, 32), (425, 96, 101), (425, 95, 100), (425, 94, 105), (425, 93, 108), (425, 92, 115), (425, 91, 32), (425, 90, 116), (425, 89, 115), (425, 88, 101), (425, 87, 103), (425, 86, 110), (425, 85, 111), (425, 84, 108), (425, 83, 32), (425, 82, 116), (425, 81, 115), (425, 80, 101), (425, 79, 98), (425, 78, 32), (425, 77, 116), (425, 76, 102), (425, 75, 111), (425, 74, 115), (425, 73, 32), (425, 72, 116), (425, 71, 115), (425, 70, 117), (425, 69, 114), (425, 68, 32), (425, 67, 115), (425, 66, 116), (425, 65, 111), (425, 64, 104), (425, 63, 115), (425, 62, 32), (425, 61, 119), (425, 60, 97), (425, 59, 114), (425, 58, 100), (425, 57, 32), (425, 56, 116), (425, 55, 104), (425, 54, 103), (425, 53, 105), (425, 52, 114), (425, 51, 32), (425, 50, 116), (425, 49, 102), (425, 48, 101), (425, 47, 108), (425, 46, 32), (425, 45, 104), (425, 44, 103), (425, 43, 105), (425, 42, 104), (425, 41, 32), (425, 40, 116), (425, 39, 97), (425, 38, 32), (425, 37, 111), (425, 36, 110), (425, 35, 32), (425, 34, 100), (425, 33, 110), (425, 32, 97), (425, 31, 32), (425, 30, 114), (425, 29, 111), (425, 28, 32), (425, 27, 110), (425, 26, 101), (425, 25, 104), (425, 24, 119), (425, 23, 32), (425, 22, 116), (425, 21, 111), (425, 20, 110), (425, 19, 32), (425, 18, 101), (425, 17, 109), (425, 16, 97), (425, 15, 115), (425, 14, 32), (425, 13, 101), (425, 12, 107), (425, 11, 97), (425, 10, 116), (425, 9, 32), (425, 8, 114), (425, 7, 97), (425, 6, 101), (425, 5, 119), (425, 4, 32), (425, 3, 116), (425, 2, 117), (425, 1, 99), (425, 0, 32), (12, 1, (-1))]
def rsF : List (Nat × Nat × Nat) := [(400, 59, 460), (400, 58, 459), (400, 57, 458), (400, 56, 457), (400, 55, 456), (400, 54, 455), (400, 52, 453), (400, 51, 452), (400, 50, 451), (400, 48, 449), (400, 47, 448), (400, 46, 447), (400, 44, 445), (400, 42, 443), (400, 41, 442), (400, 35, 436), (400, 31, 432), (400, 30, 431), (400, 29, 430), (400, 28, 429), (400, 27, 428), (400, 26, 427), (400, 25, 426), (400, 24, 425), (400, 18, 419), (400, 16, 417), (400, 15, 416), (400, 14, 415), (400, 13, 414), (400, 11, 412), (400, 10, 411), (400, 9, 410), (400, 8, 409), (400, 7, 408), (400, 6, 407), (400, 4, 405), (400, 3, 404), (400, 2, 403), (1, 15, 13), (13, 5, 19), (13, 4, 18), (13, 3, 17), (13, 2, 16), (13, 1, 15), (13, 0, 14), (1, 14, 28), (28, 5, 34), (28, 4, 33), (28, 3, 32), (28, 2, 31), (28, 1, 30), (28, 0, 29), (1, 13, 12), (12, 2, 8), (12, 3, 20), (20, 5, 26), (20, 4, 25), (20, 3, 24), (20, 2, 23), (20, 1, 22), (20, 0, 21), (1, 12, 8), (8, 3, 11), (8, 2, 10), (8, 0, 9), (1, 11, 7), (1, 9, 6), (1, 7, 5), (1, 4, 4), (1, 2, 3), (1, 0, 2)]
def ksF : List (Nat × Nat × Nat) := [(460, 1, 8), (459, 2, 8), (458, 1, 6), (457, 1, 10), (456, 1, 10), (455, 1, 10), (453, 1, 40), (452, 1, 9600), (451, 1, 19200), (449, 1, 128), (448, 1, 128), (447, 1, 6), (445, 1, 32), (443, 1, 620), (442, 1, 14), (436, 1, 40), (432, 1, 4800), (431, 1, 4800), (430, 1, 128), (429, 1, 128), (428, 1, 128), (427, 1, 128), (426, 1, 8), (425, 1, 115), (419, 1, 600), (417, 1, 40), (416, 1, 40), (415, 1, 40), (414, 1, 1280), (412, 1, 16), (411, 1, 16), (410, 1, 16), (409, 1, 16), (408, 1, 16), (407, 1, 512), (405, 1, 6), (404, 1, 6), (403, 1, 192), (400, 30, 0), (19, 1, 8), (18, 1, 10), (17, 1, 128), (16, 1, 32), (15, 1, 32), (14, 1, 14), (13, 28, 0), (34, 1, 32), (33, 1, 600), (32, 1, 16), (31, 1, 16), (30, 1, 16), (29, 1, 16), (28, 25, 0), (26, 1, 32), (25, 1, 600), (24, 1, 16), (23, 1, 16), (22, 1, 16), (21, 1, 16), (20, 25, 0), (12, 24, 0), (11, 1, 601), (10, 1, 601), (9, 1, 600), (8, 26, 0), (7, 2, 8), (6, 6, 10), (5, 5, 6), (4, 3, 40), (3, 4, 16), (2, 10, 6), (1, 29, 0)]
set_option maxHeartbeats 4000000 in
set_option maxRecDepth 100000 in
theorem init_X {Q : Hp → Prop} (hQ : Q (bh is1 rs1 ks1)) : wp_X11_init 1 (bh [] [] [(1, 29, 0)]) Q := by
  unfold wp_X11_init
  refine b_new (c := 9) 2 (by decide +kernel) (by decide +kernel) (by decide) (by decide +kernel) (by decide +kernel) ?_
  refine b_new (c := 9) 3 (by decide +kernel) (by decide +kernel) (by decide) (by decide +kernel) (by decide +kernel) ?_
  refine b_new (c := 9) 4 (by decide +kernel) (by decide +kernel) (by decide) (by decide +kernel) (by decide +kernel) ?_
  refine b_new (c := 9) 5 (by decide +kernel) (by decide +kernel) (by decide) (by decide +kernel) (by decide +kernel) ?_
  refine b_new (c := 9) 6 (by decide +kernel) (by decide +kernel) (by decide) (by decide +kernel) (by decide +kernel) ?_
  refine b_new (c := 9) 7 (by decide +kernel) (by decide +kernel) (by decide) (by decide +kernel) (by decide +kernel) ?_
  refine b_alc 8 (by decide +kernel) (by decide +kernel) (by decide) (by decide +kernel) (by decide +kernel) ?_
  refine ⟨(by rw [bK]; decide +kernel), (b_ok (by decide +kernel)), (b_ok (by decide +kernel)), ?_⟩
  unfold wp_X8_init
  refine b_new (c := 6) 9 (by decide +kernel) (by decide +kernel) (by decide) (by decide +kernel) (by decide +kernel) ?_
  refine b_new (c := 6) 10 (by decide +kernel) (by decide +kernel) (by decide) (by decide +kernel) (by decide +kernel) ?_
  refine b_new (c := 6) 11 (by decide +kernel) (by decide +kernel) (by decide) (by decide +kernel) (by decide +kernel) ?_
  refine b_ref (c := 9) (by decide +kernel) (by decide +kernel) ?_
  refine b_alc 12 (by decide +kernel) (by decide +kernel) (by decide) (by decide +kernel) (by decide +kernel) ?_
  refine ⟨(by rw [bK]; decide +kernel), (by rw [bK]; decide +kernel), (b_ok (by decide +kernel)), (b_ok (by decide +kernel)), ?_⟩
  have e12 : ∀ is ks, hpR (bh is [(1, 12, 8), (8, 3, 11), (8, 2, 10), (8, 0, 9), (1, 11, 7), (1, 9, 6), (1, 7, 5), (1, 4, 4), (1, 2, 3), (1, 0, 2)] ks) 1 12 = some 8 := fun is ks => rfl
  rw [e12]
  unfold wp_X5_init
  refine b_fld (c := 4) (by decide +kernel) ?_
  refine ⟨(b_ok (by decide +kernel)), ?_⟩
  refine b_alc 20 (by decide +kernel) (by decide +kernel) (by decide) (by decide +kernel) (by decide +kernel) ?_
  refine ⟨(by rw [bK]; decide +kernel), (b_ok (by decide +kernel)), (b_ok (by decide +kernel)), (b_ok (by decide +kernel)), ?_⟩
  unfold wp_X7_init
  refine b_new (c := 5) 21 (by decide +kernel) (by decide +kernel) (by decide) (by decide +kernel) (by decide +kernel) ?_
  refine b_new (c := 5) 22 (by decide +kernel) (by decide +kernel) (by decide) (by decide +kernel) (by decide +kernel) ?_
  refine b_new (c := 5) 23 (by decide +kernel) (by decide +kernel) (by decide) (by decide +kernel) (by decide +kernel) ?_
  refine b_new (c := 5) 24 (by decide +kernel) (by decide +kernel) (by decide) (by decide +kernel) (by decide +kernel) ?_
  refine b_new (c := 5) 25 (by decide +kernel) (by decide +kernel) (by decide) (by decide +kernel) (by decide +kernel) ?_
  refine b_new (c := 5) 26 (by decide +kernel) (by decide +kernel) (by decide) (by decide +kernel) (by decide +kernel) ?_
  refine b_ref (c := 4) (by decide +kernel) (by decide +kernel) ?_
  refine b_ref (c := 4) (by decide +kernel) (by decide +kernel) ?_
  refine b_ref (c := 9) (by decide +kernel) (by decide +kernel) ?_
  refine b_alc 28 (by decide +kernel) (by decide +kernel) (by decide) (by decide +kernel) (by decide +kernel) ?_
  refine ⟨(by rw [bK]; decide +kernel), (b_ok (by decide +kernel)), (b_ok (by decide +kernel)), ?_⟩
  refine b_new (c := 5) 29 (by decide +kernel) (by decide +kernel) (by decide) (by decide +kernel) (by decide +kernel) ?_
  refine b_new (c := 5) 30 (by decide +kernel) (by decide +kernel) (by decide) (by decide +kernel) (by decide +kernel) ?_
  refine b_new (c := 5) 31 (by decide +kernel) (by decide +kernel) (by decide) (by decide +kernel) (by decide +kernel) ?_
  refine b_new (c := 5) 32 (by decide +kernel) (by decide +kernel) (by decide) (by decide +kernel) (by decide +kernel) ?_
  refine b_new (c := 5) 33 (by decide +kernel) (by decide +kernel) (by decide) (by decide +kernel) (by decide +kernel) ?_
  refine b_new (c := 5) 34 (by decide +kernel) (by decide +kernel) (by decide) (by decide +kernel) (by decide +kernel) ?_
  refine b_ref (c := 9) (by decide +kernel) (by decide +kernel) ?_
  refine b_alc 13 (by decide +kernel) (by decide +kernel) (by decide) (by decide +kernel) (by decide +kernel) ?_
  refine ⟨(by rw [bK]; decide +kernel), (b_ok (by decide +kernel)), (b_ok (by decide +kernel)), ?_⟩
  unfold wp_X10_init
  refine b_new (c := 8) 14 (by decide +kernel) (by decide +kernel) (by decide) (by decide +kernel) (by decide +kernel) ?_
  refine b_new (c := 8) 15 (by decide +kernel) (by decide +kernel) (by decide) (by decide +kernel) (by decide +kernel) ?_
  refine b_new (c := 8) 16 (by decide +kernel) (by decide +kernel) (by decide) (by decide +kernel) (by decide +kernel) ?_
  refine b_new (c := 8) 17 (by decide +kernel) (by decide +kernel) (by decide) (by decide +kernel) (by decide +kernel) ?_
  refine b_new (c := 8) 18 (by decide +kernel) (by decide +kernel) (by decide) (by decide +kernel) (by decide +kernel) ?_
  refine b_new (c := 8) 19 (by decide +kernel) (by decide +kernel) (by decide) (by decide +kernel) (by decide +kernel) ?_
  refine b_ref (c := 9) (by decide +kernel) (by decide +kernel) ?_
  exact hQ
