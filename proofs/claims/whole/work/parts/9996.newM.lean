/-! OneBarrelModel's constructor (my own) -/
set_option maxHeartbeats 8000000 in
set_option maxRecDepth 100000 in
theorem init_M {Q : Hp → Prop} (hQ : Q (bh isF rsF ksF)) : wp_X12_init 400 (bh is1 rs1 ((400, 30, 0) :: ks1)) Q := by
  unfold wp_X12_init
  refine b_new (c := 10) (f := 2) 403 (by decide +kernel) (by decide +kernel) (by decide) (by decide +kernel) (by decide +kernel) ?_
  refine b_new (c := 10) (f := 3) 404 (by decide +kernel) (by decide +kernel) (by decide) (by decide +kernel) (by decide +kernel) ?_
  refine b_new (c := 10) (f := 4) 405 (by decide +kernel) (by decide +kernel) (by decide) (by decide +kernel) (by decide +kernel) ?_
  refine b_new (c := 10) (f := 6) 407 (by decide +kernel) (by decide +kernel) (by decide) (by decide +kernel) (by decide +kernel) ?_
  refine b_new (c := 10) (f := 7) 408 (by decide +kernel) (by decide +kernel) (by decide) (by decide +kernel) (by decide +kernel) ?_
  refine b_new (c := 10) (f := 8) 409 (by decide +kernel) (by decide +kernel) (by decide) (by decide +kernel) (by decide +kernel) ?_
  refine b_new (c := 10) (f := 9) 410 (by decide +kernel) (by decide +kernel) (by decide) (by decide +kernel) (by decide +kernel) ?_
  refine b_new (c := 10) (f := 10) 411 (by decide +kernel) (by decide +kernel) (by decide) (by decide +kernel) (by decide +kernel) ?_
  refine b_new (c := 10) (f := 11) 412 (by decide +kernel) (by decide +kernel) (by decide) (by decide +kernel) (by decide +kernel) ?_
  refine b_new (c := 10) (f := 13) 414 (by decide +kernel) (by decide +kernel) (by decide) (by decide +kernel) (by decide +kernel) ?_
  refine b_new (c := 10) (f := 14) 415 (by decide +kernel) (by decide +kernel) (by decide) (by decide +kernel) (by decide +kernel) ?_
  refine b_new (c := 10) (f := 15) 416 (by decide +kernel) (by decide +kernel) (by decide) (by decide +kernel) (by decide +kernel) ?_
  refine b_new (c := 10) (f := 16) 417 (by decide +kernel) (by decide +kernel) (by decide) (by decide +kernel) (by decide +kernel) ?_
  refine b_new (c := 10) (f := 18) 419 (by decide +kernel) (by decide +kernel) (by decide) (by decide +kernel) (by decide +kernel) ?_
  refine b_alc 425 (by decide +kernel) (by decide +kernel) (by decide) (by decide +kernel) (by decide +kernel) ?_
  refine b_set 0 115 rfl (by decide +kernel) (by decide) (by decide) ?_
  refine b_set 1 115 rfl (by decide +kernel) (by decide) (by decide) ?_
  refine b_set 2 115 rfl (by decide +kernel) (by decide) (by decide) ?_
  refine b_set 3 115 rfl (by decide +kernel) (by decide) (by decide) ?_
  refine b_set 4 115 rfl (by decide +kernel) (by decide) (by decide) ?_
  refine b_set 5 115 rfl (by decide +kernel) (by decide) (by decide) ?_
  refine b_set 6 115 rfl (by decide +kernel) (by decide) (by decide) ?_
  refine b_set 7 115 rfl (by decide +kernel) (by decide) (by decide) ?_
  refine b_set 8 115 rfl (by decide +kernel) (by decide) (by decide) ?_
  refine b_set 9 115 rfl (by decide +kernel) (by decide) (by decide) ?_
  refine b_set 10 115 rfl (by decide +kernel) (by decide) (by decide) ?_
  refine b_set 11 115 rfl (by decide +kernel) (by decide) (by decide) ?_
  refine b_set 12 115 rfl (by decide +kernel) (by decide) (by decide) ?_
  refine b_set 13 115 rfl (by decide +kernel) (by decide) (by decide) ?_
  unfold wp_X12_init_J208
  refine b_set 14 115 rfl (by decide +kernel) (by decide) (by decide) ?_
  refine b_set 15 115 rfl (by decide +kernel) (by decide) (by decide) ?_
  refine b_set 16 115 rfl (by decide +kernel) (by decide) (by decide) ?_
  refine b_set 17 115 rfl (by decide +kernel) (by decide) (by decide) ?_
  refine b_set 18 115 rfl (by decide +kernel) (by decide) (by decide) ?_
  refine b_set 19 115 rfl (by decide +kernel) (by decide) (by decide) ?_
  refine b_set 20 115 rfl (by decide +kernel) (by decide) (by decide) ?_
  refine b_set 21 115 rfl (by decide +kernel) (by decide) (by decide) ?_
  refine b_set 22 115 rfl (by decide +kernel) (by decide) (by decide) ?_
  refine b_set 23 115 rfl (by decide +kernel) (by decide) (by decide) ?_
  refine b_set 24 115 rfl (by decide +kernel) (by decide) (by decide) ?_
  refine b_set 25 115 rfl (by decide +kernel) (by decide) (by decide) ?_
  refine b_set 26 115 rfl (by decide +kernel) (by decide) (by decide) ?_
  refine b_set 27 115 rfl (by decide +kernel) (by decide) (by decide) ?_
  refine b_set 28 115 rfl (by decide +kernel) (by decide) (by decide) ?_
  refine b_set 29 115 rfl (by decide +kernel) (by decide) (by decide) ?_
  refine b_set 30 115 rfl (by decide +kernel) (by decide) (by decide) ?_
  refine b_set 31 115 rfl (by decide +kernel) (by decide) (by decide) ?_
  refine b_set 32 115 rfl (by decide +kernel) (by decide) (by decide) ?_
  refine b_set 33 115 rfl (by decide +kernel) (by decide) (by decide) ?_
  refine b_set 34 115 rfl (by decide +kernel) (by decide) (by decide) ?_
  refine b_set 35 115 rfl (by decide +kernel) (by decide) (by decide) ?_
  refine b_set 36 115 rfl (by decide +kernel) (by decide) (by decide) ?_
  refine b_set 37 115 rfl (by decide +kernel) (by decide) (by decide) ?_
  refine b_set 38 115 rfl (by decide +kernel) (by decide) (by decide) ?_
  refine b_set 39 115 rfl (by decide +kernel) (by decide) (by decide) ?_
  refine b_set 40 115 rfl (by decide +kernel) (by decide) (by decide) ?_
  refine b_set 41 115 rfl (by decide +kernel) (by decide) (by decide) ?_
  refine b_set 42 115 rfl (by decide +kernel) (by decide) (by decide) ?_
  refine b_set 43 115 rfl (by decide +kernel) (by decide) (by decide) ?_
  unfold wp_X12_init_J388
  refine b_set 44 115 rfl (by decide +kernel) (by decide) (by decide) ?_
  refine b_set 45 115 rfl (by decide +kernel) (by decide) (by decide) ?_
  refine b_set 46 115 rfl (by decide +kernel) (by decide) (by decide) ?_
  refine b_set 47 115 rfl (by decide +kernel) (by decide) (by decide) ?_
  refine b_set 48 115 rfl (by decide +kernel) (by decide) (by decide) ?_
  refine b_set 49 115 rfl (by decide +kernel) (by decide) (by decide) ?_
  refine b_set 50 115 rfl (by decide +kernel) (by decide) (by decide) ?_
  refine b_set 51 115 rfl (by decide +kernel) (by decide) (by decide) ?_
  refine b_set 52 115 rfl (by decide +kernel) (by decide) (by decide) ?_
  refine b_set 53 115 rfl (by decide +kernel) (by decide) (by decide) ?_
  refine b_set 54 115 rfl (by decide +kernel) (by decide) (by decide) ?_
  refine b_set 55 115 rfl (by decide +kernel) (by decide) (by decide) ?_
  refine b_set 56 115 rfl (by decide +kernel) (by decide) (by decide) ?_
  refine b_set 57 115 rfl (by decide +kernel) (by decide) (by decide) ?_
  refine b_set 58 115 rfl (by decide +kernel) (by decide) (by decide) ?_
  refine b_set 59 115 rfl (by decide +kernel) (by decide) (by decide) ?_
  refine b_set 60 115 rfl (by decide +kernel) (by decide) (by decide) ?_
  refine b_set 61 115 rfl (by decide +kernel) (by decide) (by decide) ?_
  refine b_set 62 115 rfl (by decide +kernel) (by decide) (by decide) ?_
  refine b_set 63 115 rfl (by decide +kernel) (by decide) (by decide) ?_
  refine b_set 64 115 rfl (by decide +kernel) (by decide) (by decide) ?_
  refine b_set 65 115 rfl (by decide +kernel) (by decide) (by decide) ?_
  refine b_set 66 115 rfl (by decide +kernel) (by decide) (by decide) ?_
  refine b_set 67 115 rfl (by decide +kernel) (by decide) (by decide) ?_
  refine b_set 68 115 rfl (by decide +kernel) (by decide) (by decide) ?_
  refine b_set 69 115 rfl (by decide +kernel) (by decide) (by decide) ?_
  refine b_set 70 115 rfl (by decide +kernel) (by decide) (by decide) ?_
  refine b_set 71 115 rfl (by decide +kernel) (by decide) (by decide) ?_
  refine b_set 72 115 rfl (by decide +kernel) (by decide) (by decide) ?_
  refine b_set 73 115 rfl (by decide +kernel) (by decide) (by decide) ?_
  unfold wp_X12_init_J568
  refine b_set 74 115 rfl (by decide +kernel) (by decide) (by decide) ?_
  refine b_set 75 115 rfl (by decide +kernel) (by decide) (by decide) ?_
  refine b_set 76 115 rfl (by decide +kernel) (by decide) (by decide) ?_
  refine b_set 77 115 rfl (by decide +kernel) (by decide) (by decide) ?_
  refine b_set 78 115 rfl (by decide +kernel) (by decide) (by decide) ?_
  refine b_set 79 115 rfl (by decide +kernel) (by decide) (by decide) ?_
  refine b_set 80 115 rfl (by decide +kernel) (by decide) (by decide) ?_
  refine b_set 81 115 rfl (by decide +kernel) (by decide) (by decide) ?_
  refine b_set 82 115 rfl (by decide +kernel) (by decide) (by decide) ?_
  refine b_set 83 115 rfl (by decide +kernel) (by decide) (by decide) ?_
  refine b_set 84 115 rfl (by decide +kernel) (by decide) (by decide) ?_
  refine b_set 85 115 rfl (by decide +kernel) (by decide) (by decide) ?_
  refine b_set 86 115 rfl (by decide +kernel) (by decide) (by decide) ?_
  refine b_set 87 115 rfl (by decide +kernel) (by decide) (by decide) ?_
  refine b_set 88 115 rfl (by decide +kernel) (by decide) (by decide) ?_
  refine b_set 89 115 rfl (by decide +kernel) (by decide) (by decide) ?_
  refine b_set 90 115 rfl (by decide +kernel) (by decide) (by decide) ?_
  refine b_set 91 115 rfl (by decide +kernel) (by decide) (by decide) ?_
  refine b_set 92 115 rfl (by decide +kernel) (by decide) (by decide) ?_
  refine b_set 93 115 rfl (by decide +kernel) (by decide) (by decide) ?_
  refine b_set 94 115 rfl (by decide +kernel) (by decide) (by decide) ?_
  refine b_set 95 115 rfl (by decide +kernel) (by decide) (by decide) ?_
  refine b_set 96 115 rfl (by decide +kernel) (by decide) (by decide) ?_
  refine b_set 97 115 rfl (by decide +kernel) (by decide) (by decide) ?_
  refine b_set 98 115 rfl (by decide +kernel) (by decide) (by decide) ?_
  refine b_set 99 115 rfl (by decide +kernel) (by decide) (by decide) ?_
  refine b_set 100 115 rfl (by decide +kernel) (by decide) (by decide) ?_
  refine b_set 101 115 rfl (by decide +kernel) (by decide) (by decide) ?_
  refine b_set 102 115 rfl (by decide +kernel) (by decide) (by decide) ?_
  refine b_set 103 115 rfl (by decide +kernel) (by decide) (by decide) ?_
  unfold wp_X12_init_J748
  refine b_set 104 115 rfl (by decide +kernel) (by decide) (by decide) ?_
  refine b_set 105 115 rfl (by decide +kernel) (by decide) (by decide) ?_
  refine b_set 106 115 rfl (by decide +kernel) (by decide) (by decide) ?_
  refine b_set 107 115 rfl (by decide +kernel) (by decide) (by decide) ?_
  refine b_set 108 115 rfl (by decide +kernel) (by decide) (by decide) ?_
  refine b_set 109 115 rfl (by decide +kernel) (by decide) (by decide) ?_
  refine b_set 110 115 rfl (by decide +kernel) (by decide) (by decide) ?_
  refine b_set 111 115 rfl (by decide +kernel) (by decide) (by decide) ?_
  refine b_set 112 115 rfl (by decide +kernel) (by decide) (by decide) ?_
  refine b_set 113 115 rfl (by decide +kernel) (by decide) (by decide) ?_
  refine b_set 114 115 rfl (by decide +kernel) (by decide) (by decide) ?_
  refine b_ref (c := 10) (by decide +kernel) (by decide +kernel) ?_
  refine b_new (c := 10) (f := 25) 426 (by decide +kernel) (by decide +kernel) (by decide) (by decide +kernel) (by decide +kernel) ?_
  refine b_new (c := 10) (f := 26) 427 (by decide +kernel) (by decide +kernel) (by decide) (by decide +kernel) (by decide +kernel) ?_
  refine b_new (c := 10) (f := 27) 428 (by decide +kernel) (by decide +kernel) (by decide) (by decide +kernel) (by decide +kernel) ?_
  refine b_new (c := 10) (f := 28) 429 (by decide +kernel) (by decide +kernel) (by decide) (by decide +kernel) (by decide +kernel) ?_
  refine b_new (c := 10) (f := 29) 430 (by decide +kernel) (by decide +kernel) (by decide) (by decide +kernel) (by decide +kernel) ?_
  refine b_new (c := 10) (f := 30) 431 (by decide +kernel) (by decide +kernel) (by decide) (by decide +kernel) (by decide +kernel) ?_
  refine b_new (c := 10) (f := 31) 432 (by decide +kernel) (by decide +kernel) (by decide) (by decide +kernel) (by decide +kernel) ?_
  refine b_new (c := 10) (f := 35) 436 (by decide +kernel) (by decide +kernel) (by decide) (by decide +kernel) (by decide +kernel) ?_
  refine b_fld (c := 10) (by decide +kernel) ?_
  refine b_new (c := 10) (f := 41) 442 (by decide +kernel) (by decide +kernel) (by decide) (by decide +kernel) (by decide +kernel) ?_
  refine b_new (c := 10) (f := 42) 443 (by decide +kernel) (by decide +kernel) (by decide) (by decide +kernel) (by decide +kernel) ?_
  refine b_new (c := 10) (f := 44) 445 (by decide +kernel) (by decide +kernel) (by decide) (by decide +kernel) (by decide +kernel) ?_
  refine b_new (c := 10) (f := 46) 447 (by decide +kernel) (by decide +kernel) (by decide) (by decide +kernel) (by decide +kernel) ?_
  refine b_new (c := 10) (f := 47) 448 (by decide +kernel) (by decide +kernel) (by decide) (by decide +kernel) (by decide +kernel) ?_
  refine b_new (c := 10) (f := 48) 449 (by decide +kernel) (by decide +kernel) (by decide) (by decide +kernel) (by decide +kernel) ?_
  refine b_fld (c := 10) (by decide +kernel) ?_
  refine b_new (c := 10) (f := 50) 451 (by decide +kernel) (by decide +kernel) (by decide) (by decide +kernel) (by decide +kernel) ?_
  refine b_new (c := 10) (f := 51) 452 (by decide +kernel) (by decide +kernel) (by decide) (by decide +kernel) (by decide +kernel) ?_
  refine b_new (c := 10) (f := 52) 453 (by decide +kernel) (by decide +kernel) (by decide) (by decide +kernel) (by decide +kernel) ?_
  refine b_new (c := 10) (f := 54) 455 (by decide +kernel) (by decide +kernel) (by decide) (by decide +kernel) (by decide +kernel) ?_
  unfold wp_X12_init_J977
  refine b_new (c := 10) (f := 55) 456 (by decide +kernel) (by decide +kernel) (by decide) (by decide +kernel) (by decide +kernel) ?_
  refine b_new (c := 10) (f := 56) 457 (by decide +kernel) (by decide +kernel) (by decide) (by decide +kernel) (by decide +kernel) ?_
  refine b_new (c := 10) (f := 57) 458 (by decide +kernel) (by decide +kernel) (by decide) (by decide +kernel) (by decide +kernel) ?_
  refine b_new (c := 10) (f := 58) 459 (by decide +kernel) (by decide +kernel) (by decide) (by decide +kernel) (by decide +kernel) ?_
  refine b_new (c := 10) (f := 59) 460 (by decide +kernel) (by decide +kernel) (by decide) (by decide +kernel) (by decide +kernel) ?_
  exact hQ
