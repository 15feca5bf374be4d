/-! the reference's cells; where all cells lie -/
def zsX12 : List (Nat × Nat) := [(1, 3870), (4, 3), (4, 12), (1, 12), (1, 12), (1, 196), (1, 4032), (1, 7), (1, 6), (1, 6), (1, 128), (1, 7), (1, 38700), (1, 7), (1, 1290), (1, 1290), (1, 400), (1, 6), (1, 64), (1, 840), (1, 840), (1, 260), (1, 260), (1, 260), (1, 260), (4, 260), (1, 16), (1, 16), (1, 49), (1, 49), (1, 49), (1, 2), (1, 12), (1, 12), (1, 2), (1, 84), (1, 84), (1, 14), (1, 14), (1, 14), (1, 14), (1, 2), (1, 2), (1, 2), (2, 7), (2, 17), (2, 403), (1, 403), (1, 403), (1, 403), (3, 2000), (3, 2000)]
def zrX12 : List (Nat × Nat × Nat) := [(420, 74, 472), (420, 73, 471), (420, 72, 470), (420, 71, 469), (420, 70, 468), (420, 68, 467), (420, 67, 466), (420, 66, 465), (420, 63, 464), (420, 62, 463), (420, 61, 462), (420, 60, 461), (420, 59, 460), (420, 57, 459), (420, 56, 458), (420, 55, 457), (420, 53, 456), (420, 52, 455), (420, 50, 454), (420, 49, 453), (420, 48, 452), (420, 46, 451), (420, 45, 450), (420, 44, 449), (420, 43, 448), (420, 42, 447), (420, 40, 446), (420, 39, 445), (420, 38, 444), (420, 37, 443), (420, 36, 442), (420, 34, 441), (420, 33, 440), (420, 32, 439), (420, 31, 438), (420, 30, 437), (420, 29, 436), (420, 28, 435), (420, 27, 434), (420, 26, 433), (420, 25, 432), (420, 24, 431), (420, 23, 430), (420, 22, 429), (420, 21, 428), (420, 9, 427), (420, 8, 426), (420, 7, 425), (420, 6, 424), (420, 5, 423), (420, 3, 422), (420, 1, 421)]
set_option maxHeartbeats 8000000 in
theorem K_X12 {L : Nat} {sh : List (Nat × Nat)} {rf : List (Nat × Nat × Nat)} {I : zI} {J : zJ} (hA : zAl sh rf I J 421) (hs : zAsh sh 420 = some (0, 12)) : zAl (zsX12 ++ sh) (zrX12 ++ rf) (zu I 420 17 (-1)) J 473 ∧ ∀ o, zE 10 kX12_init 439 [some (.ref 420)] [] (zML L (zsX12 ++ sh) (zrX12 ++ rf)) (zu I 420 17 (-1)) J o → zE 10 kX12_init 0 [some (.ref 420)] [] (zML L sh rf) I J o := by
  have A0 := hA
  have s0 := hs
  have A1 := A0.new (s := (3, 2000))
  have s1 := zAsh_c (x := (3, 2000)) s0
  have A2 := A1.put (f := 1) (b := 421) (a := 420) (by omega)
  have s2 := s1
  have A3 := A2.new (s := (3, 2000))
  have s3 := zAsh_c (x := (3, 2000)) s2
  have A4 := A3.put (f := 3) (b := 422) (a := 420) (by omega)
  have s4 := s3
  have A5 := A4.new (s := (1, 403))
  have s5 := zAsh_c (x := (1, 403)) s4
  have A6 := A5.put (f := 5) (b := 423) (a := 420) (by omega)
  have s6 := s5
  have A7 := A6.new (s := (1, 403))
  have s7 := zAsh_c (x := (1, 403)) s6
  have A8 := A7.put (f := 6) (b := 424) (a := 420) (by omega)
  have s8 := s7
  have A9 := A8.new (s := (1, 403))
  have s9 := zAsh_c (x := (1, 403)) s8
  have A10 := A9.put (f := 7) (b := 425) (a := 420) (by omega)
  have s10 := s9
  have A11 := A10.new (s := (2, 403))
  have s11 := zAsh_c (x := (2, 403)) s10
  have A12 := A11.put (f := 8) (b := 426) (a := 420) (by omega)
  have s12 := s11
  have A13 := A12.new (s := (2, 17))
  have s13 := zAsh_c (x := (2, 17)) s12
  have A14 := A13.put (f := 9) (b := 427) (a := 420) (by omega)
  have s14 := s13
  have A15 := A14.puti (f := 17) (x := (-1)) (a := 420) (by omega)
  have s15 := s14
  have A16 := A15.new (s := (2, 7))
  have s16 := zAsh_c (x := (2, 7)) s15
  have A17 := A16.put (f := 21) (b := 428) (a := 420) (by omega)
  have s17 := s16
  have A18 := A17.new (s := (1, 2))
  have s18 := zAsh_c (x := (1, 2)) s17
  have A19 := A18.put (f := 22) (b := 429) (a := 420) (by omega)
  have s19 := s18
  have A20 := A19.new (s := (1, 2))
  have s20 := zAsh_c (x := (1, 2)) s19
  have A21 := A20.put (f := 23) (b := 430) (a := 420) (by omega)
  have s21 := s20
  have A22 := A21.new (s := (1, 2))
  have s22 := zAsh_c (x := (1, 2)) s21
  have A23 := A22.put (f := 24) (b := 431) (a := 420) (by omega)
  have s23 := s22
  have A24 := A23.new (s := (1, 14))
  have s24 := zAsh_c (x := (1, 14)) s23
  have A25 := A24.put (f := 25) (b := 432) (a := 420) (by omega)
  have s25 := s24
  have A26 := A25.new (s := (1, 14))
  have s26 := zAsh_c (x := (1, 14)) s25
  have A27 := A26.put (f := 26) (b := 433) (a := 420) (by omega)
  have s27 := s26
  have A28 := A27.new (s := (1, 14))
  have s28 := zAsh_c (x := (1, 14)) s27
  have A29 := A28.put (f := 27) (b := 434) (a := 420) (by omega)
  have s29 := s28
  have A30 := A29.new (s := (1, 14))
  have s30 := zAsh_c (x := (1, 14)) s29
  have A31 := A30.put (f := 28) (b := 435) (a := 420) (by omega)
  have s31 := s30
  have A32 := A31.new (s := (1, 84))
  have s32 := zAsh_c (x := (1, 84)) s31
  have A33 := A32.put (f := 29) (b := 436) (a := 420) (by omega)
  have s33 := s32
  have A34 := A33.new (s := (1, 84))
  have s34 := zAsh_c (x := (1, 84)) s33
  have A35 := A34.put (f := 30) (b := 437) (a := 420) (by omega)
  have s35 := s34
  have A36 := A35.new (s := (1, 2))
  have s36 := zAsh_c (x := (1, 2)) s35
  have A37 := A36.put (f := 31) (b := 438) (a := 420) (by omega)
  have s37 := s36
  have A38 := A37.new (s := (1, 12))
  have s38 := zAsh_c (x := (1, 12)) s37
  have A39 := A38.put (f := 32) (b := 439) (a := 420) (by omega)
  have s39 := s38
  have A40 := A39.new (s := (1, 12))
  have s40 := zAsh_c (x := (1, 12)) s39
  have A41 := A40.put (f := 33) (b := 440) (a := 420) (by omega)
  have s41 := s40
  have A42 := A41.new (s := (1, 2))
  have s42 := zAsh_c (x := (1, 2)) s41
  have A43 := A42.put (f := 34) (b := 441) (a := 420) (by omega)
  have s43 := s42
  have A44 := A43.new (s := (1, 49))
  have s44 := zAsh_c (x := (1, 49)) s43
  have A45 := A44.put (f := 36) (b := 442) (a := 420) (by omega)
  have s45 := s44
  have A46 := A45.new (s := (1, 49))
  have s46 := zAsh_c (x := (1, 49)) s45
  have A47 := A46.put (f := 37) (b := 443) (a := 420) (by omega)
  have s47 := s46
  have A48 := A47.new (s := (1, 49))
  have s48 := zAsh_c (x := (1, 49)) s47
  have A49 := A48.put (f := 38) (b := 444) (a := 420) (by omega)
  have s49 := s48
  have A50 := A49.new (s := (1, 16))
  have s50 := zAsh_c (x := (1, 16)) s49
  have A51 := A50.put (f := 39) (b := 445) (a := 420) (by omega)
  have s51 := s50
  have A52 := A51.new (s := (1, 16))
  have s52 := zAsh_c (x := (1, 16)) s51
  have A53 := A52.put (f := 40) (b := 446) (a := 420) (by omega)
  have s53 := s52
  have A54 := A53.new (s := (4, 260))
  have s54 := zAsh_c (x := (4, 260)) s53
  have A55 := A54.put (f := 42) (b := 447) (a := 420) (by omega)
  have s55 := s54
  have A56 := A55.new (s := (1, 260))
  have s56 := zAsh_c (x := (1, 260)) s55
  have A57 := A56.put (f := 43) (b := 448) (a := 420) (by omega)
  have s57 := s56
  have A58 := A57.new (s := (1, 260))
  have s58 := zAsh_c (x := (1, 260)) s57
  have A59 := A58.put (f := 44) (b := 449) (a := 420) (by omega)
  have s59 := s58
  have A60 := A59.new (s := (1, 260))
  have s60 := zAsh_c (x := (1, 260)) s59
  have A61 := A60.put (f := 45) (b := 450) (a := 420) (by omega)
  have s61 := s60
  have A62 := A61.new (s := (1, 260))
  have s62 := zAsh_c (x := (1, 260)) s61
  have A63 := A62.put (f := 46) (b := 451) (a := 420) (by omega)
  have s63 := s62
  have A64 := A63.new (s := (1, 840))
  have s64 := zAsh_c (x := (1, 840)) s63
  have A65 := A64.put (f := 48) (b := 452) (a := 420) (by omega)
  have s65 := s64
  have A66 := A65.new (s := (1, 840))
  have s66 := zAsh_c (x := (1, 840)) s65
  have A67 := A66.put (f := 49) (b := 453) (a := 420) (by omega)
  have s67 := s66
  have A68 := A67.new (s := (1, 64))
  have s68 := zAsh_c (x := (1, 64)) s67
  have A69 := A68.put (f := 50) (b := 454) (a := 420) (by omega)
  have s69 := s68
  have A70 := A69.new (s := (1, 6))
  have s70 := zAsh_c (x := (1, 6)) s69
  have A71 := A70.put (f := 52) (b := 455) (a := 420) (by omega)
  have s71 := s70
  have A72 := A71.new (s := (1, 400))
  have s72 := zAsh_c (x := (1, 400)) s71
  have A73 := A72.put (f := 53) (b := 456) (a := 420) (by omega)
  have s73 := s72
  have A74 := A73.new (s := (1, 1290))
  have s74 := zAsh_c (x := (1, 1290)) s73
  have A75 := A74.put (f := 55) (b := 457) (a := 420) (by omega)
  have s75 := s74
  have A76 := A75.new (s := (1, 1290))
  have s76 := zAsh_c (x := (1, 1290)) s75
  have A77 := A76.put (f := 56) (b := 458) (a := 420) (by omega)
  have s77 := s76
  have A78 := A77.new (s := (1, 7))
  have s78 := zAsh_c (x := (1, 7)) s77
  have A79 := A78.put (f := 57) (b := 459) (a := 420) (by omega)
  have s79 := s78
  have A80 := A79.new (s := (1, 38700))
  have s80 := zAsh_c (x := (1, 38700)) s79
  have A81 := A80.put (f := 59) (b := 460) (a := 420) (by omega)
  have s81 := s80
  have A82 := A81.new (s := (1, 7))
  have s82 := zAsh_c (x := (1, 7)) s81
  have A83 := A82.put (f := 60) (b := 461) (a := 420) (by omega)
  have s83 := s82
  have A84 := A83.new (s := (1, 128))
  have s84 := zAsh_c (x := (1, 128)) s83
  have A85 := A84.put (f := 61) (b := 462) (a := 420) (by omega)
  have s85 := s84
  have A86 := A85.new (s := (1, 6))
  have s86 := zAsh_c (x := (1, 6)) s85
  have A87 := A86.put (f := 62) (b := 463) (a := 420) (by omega)
  have s87 := s86
  have A88 := A87.new (s := (1, 6))
  have s88 := zAsh_c (x := (1, 6)) s87
  have A89 := A88.put (f := 63) (b := 464) (a := 420) (by omega)
  have s89 := s88
  have A90 := A89.new (s := (1, 7))
  have s90 := zAsh_c (x := (1, 7)) s89
  have A91 := A90.put (f := 66) (b := 465) (a := 420) (by omega)
  have s91 := s90
  have A92 := A91.new (s := (1, 4032))
  have s92 := zAsh_c (x := (1, 4032)) s91
  have A93 := A92.put (f := 67) (b := 466) (a := 420) (by omega)
  have s93 := s92
  have A94 := A93.new (s := (1, 196))
  have s94 := zAsh_c (x := (1, 196)) s93
  have A95 := A94.put (f := 68) (b := 467) (a := 420) (by omega)
  have s95 := s94
  have A96 := A95.new (s := (1, 12))
  have s96 := zAsh_c (x := (1, 12)) s95
  have A97 := A96.put (f := 70) (b := 468) (a := 420) (by omega)
  have s97 := s96
  have A98 := A97.new (s := (1, 12))
  have s98 := zAsh_c (x := (1, 12)) s97
  have A99 := A98.put (f := 71) (b := 469) (a := 420) (by omega)
  have s99 := s98
  have A100 := A99.new (s := (4, 12))
  have s100 := zAsh_c (x := (4, 12)) s99
  have A101 := A100.put (f := 72) (b := 470) (a := 420) (by omega)
  have s101 := s100
  have A102 := A101.new (s := (4, 3))
  have s102 := zAsh_c (x := (4, 3)) s101
  have A103 := A102.put (f := 73) (b := 471) (a := 420) (by omega)
  have s103 := s102
  have A104 := A103.new (s := (1, 3870))
  have s104 := zAsh_c (x := (1, 3870)) s103
  have A105 := A104.put (f := 74) (b := 472) (a := 420) (by omega)
  have s105 := s104
  refine ⟨A105, fun o ho => ?_⟩
  refine ex_step (pc' := 1) dX12_init_0 rfl ?_
  refine ex_obj (by omega) dX12_init_1 zl_RX12_7 (Nat.le_of_ble_eq_true rfl) ?_
  refine ex_step (pc' := 5) dX12_init_4 rfl ?_
  refine ex_step (pc' := 8) (st' := [.int 2000, .ref 420]) dX12_init_5 rfl ?_
  refine al_newa (kd := 3) (N := 2000) A0 (by omega) dX12_init_8 za_byte rfl (by decide) (by decide) (by decide) (by decide) ?_
  refine al_putr A1 (by omega) dX12_init_10 (wp_RX12_13 _ rfl) s1 rfl ?_
  refine ex_step (pc' := 14) dX12_init_13 rfl ?_
  refine ex_step (pc' := 17) (st' := [.int 2000, .ref 420]) dX12_init_14 rfl ?_
  refine al_newa (kd := 3) (N := 2000) A2 (by omega) dX12_init_17 za_byte rfl (by decide) (by decide) (by decide) (by decide) ?_
  refine al_putr A3 (by omega) dX12_init_19 (wp_RX12_17 _ rfl) s3 rfl ?_
  refine ex_step (pc' := 23) dX12_init_22 rfl ?_
  refine ex_step (pc' := 26) (st' := [.int 403, .ref 420]) dX12_init_23 rfl ?_
  refine al_newa (kd := 1) (N := 403) A4 (by omega) dX12_init_26 za_int rfl (by decide) (by decide) (by decide) (by decide) ?_
  refine al_putr A5 (by omega) dX12_init_28 (wp_RX12_20 _ rfl) s5 rfl ?_
  refine ex_step (pc' := 32) dX12_init_31 rfl ?_
  refine ex_step (pc' := 35) (st' := [.int 403, .ref 420]) dX12_init_32 rfl ?_
  refine al_newa (kd := 1) (N := 403) A6 (by omega) dX12_init_35 za_int rfl (by decide) (by decide) (by decide) (by decide) ?_
  refine al_putr A7 (by omega) dX12_init_37 (wp_RX12_24 _ rfl) s7 rfl ?_
  refine ex_step (pc' := 41) dX12_init_40 rfl ?_
  refine ex_step (pc' := 44) (st' := [.int 403, .ref 420]) dX12_init_41 rfl ?_
  refine al_newa (kd := 1) (N := 403) A8 (by omega) dX12_init_44 za_int rfl (by decide) (by decide) (by decide) (by decide) ?_
  refine al_putr A9 (by omega) dX12_init_46 (wp_RX12_27 _ rfl) s9 rfl ?_
  refine ex_step (pc' := 50) dX12_init_49 rfl ?_
  refine ex_step (pc' := 53) (st' := [.int 403, .ref 420]) dX12_init_50 rfl ?_
  refine al_newa (kd := 2) (N := 403) A10 (by omega) dX12_init_53 za_long rfl (by decide) (by decide) (by decide) (by decide) ?_
  refine al_putr A11 (by omega) dX12_init_55 (wp_RX12_30 _ rfl) s11 rfl ?_
  refine ex_step (pc' := 59) dX12_init_58 rfl ?_
  refine ex_step (pc' := 61) (st' := [.int 17, .ref 420]) dX12_init_59 rfl ?_
  refine al_newa (kd := 2) (N := 17) A12 (by omega) dX12_init_61 za_long rfl (by decide) (by decide) (by decide) (by decide) ?_
  refine al_putr A13 (by omega) dX12_init_63 (wp_RX12_34 _ rfl) s13 rfl ?_
  refine ex_step (pc' := 67) dX12_init_66 rfl ?_
  refine ex_step (pc' := 68) (st' := [.int (-1), .ref 420]) dX12_init_67 rfl ?_
  refine al_puti A14 (by omega) dX12_init_68 (wp_RX12_37 _) s14 rfl ⟨rfl, rfl⟩ ?_
  refine ex_step (pc' := 72) dX12_init_71 rfl ?_
  refine ex_step (pc' := 74) (st' := [.int 7, .ref 420]) dX12_init_72 rfl ?_
  refine al_newa (kd := 2) (N := 7) A15 (by omega) dX12_init_74 za_long rfl (by decide) (by decide) (by decide) (by decide) ?_
  refine al_putr A16 (by omega) dX12_init_76 (wp_RX12_40 _ rfl) s16 rfl ?_
  refine ex_step (pc' := 80) dX12_init_79 rfl ?_
  refine ex_step (pc' := 81) (st' := [.int 2, .ref 420]) dX12_init_80 rfl ?_
  refine al_newa (kd := 1) (N := 2) A17 (by omega) dX12_init_81 za_int rfl (by decide) (by decide) (by decide) (by decide) ?_
  refine al_putr A18 (by omega) dX12_init_83 (wp_RX12_43 _ rfl) s18 rfl ?_
  refine ex_step (pc' := 87) dX12_init_86 rfl ?_
  refine ex_step (pc' := 88) (st' := [.int 2, .ref 420]) dX12_init_87 rfl ?_
  refine al_newa (kd := 1) (N := 2) A19 (by omega) dX12_init_88 za_int rfl (by decide) (by decide) (by decide) (by decide) ?_
  refine al_putr A20 (by omega) dX12_init_90 (wp_RX12_46 _ rfl) s20 rfl ?_
  refine ex_step (pc' := 94) dX12_init_93 rfl ?_
  refine ex_step (pc' := 95) (st' := [.int 2, .ref 420]) dX12_init_94 rfl ?_
  refine al_newa (kd := 1) (N := 2) A21 (by omega) dX12_init_95 za_int rfl (by decide) (by decide) (by decide) (by decide) ?_
  refine al_putr A22 (by omega) dX12_init_97 (wp_RX12_49 _ rfl) s22 rfl ?_
  refine ex_step (pc' := 101) dX12_init_100 rfl ?_
  refine ex_step (pc' := 103) (st' := [.int 14, .ref 420]) dX12_init_101 rfl ?_
  refine al_newa (kd := 1) (N := 14) A23 (by omega) dX12_init_103 za_int rfl (by decide) (by decide) (by decide) (by decide) ?_
  refine al_putr A24 (by omega) dX12_init_105 (wp_RX12_52 _ rfl) s24 rfl ?_
  refine ex_step (pc' := 109) dX12_init_108 rfl ?_
  refine ex_step (pc' := 111) (st' := [.int 14, .ref 420]) dX12_init_109 rfl ?_
  refine al_newa (kd := 1) (N := 14) A25 (by omega) dX12_init_111 za_int rfl (by decide) (by decide) (by decide) (by decide) ?_
  refine al_putr A26 (by omega) dX12_init_113 (wp_RX12_55 _ rfl) s26 rfl ?_
  refine ex_step (pc' := 117) dX12_init_116 rfl ?_
  refine ex_step (pc' := 119) (st' := [.int 14, .ref 420]) dX12_init_117 rfl ?_
  refine al_newa (kd := 1) (N := 14) A27 (by omega) dX12_init_119 za_int rfl (by decide) (by decide) (by decide) (by decide) ?_
  refine al_putr A28 (by omega) dX12_init_121 (wp_RX12_58 _ rfl) s28 rfl ?_
  refine ex_step (pc' := 125) dX12_init_124 rfl ?_
  refine ex_step (pc' := 127) (st' := [.int 14, .ref 420]) dX12_init_125 rfl ?_
  refine al_newa (kd := 1) (N := 14) A29 (by omega) dX12_init_127 za_int rfl (by decide) (by decide) (by decide) (by decide) ?_
  refine al_putr A30 (by omega) dX12_init_129 (wp_RX12_61 _ rfl) s30 rfl ?_
  refine ex_step (pc' := 133) dX12_init_132 rfl ?_
  refine ex_step (pc' := 135) (st' := [.int 84, .ref 420]) dX12_init_133 rfl ?_
  refine al_newa (kd := 1) (N := 84) A31 (by omega) dX12_init_135 za_int rfl (by decide) (by decide) (by decide) (by decide) ?_
  refine al_putr A32 (by omega) dX12_init_137 (wp_RX12_64 _ rfl) s32 rfl ?_
  refine ex_step (pc' := 141) dX12_init_140 rfl ?_
  refine ex_step (pc' := 143) (st' := [.int 84, .ref 420]) dX12_init_141 rfl ?_
  refine al_newa (kd := 1) (N := 84) A33 (by omega) dX12_init_143 za_int rfl (by decide) (by decide) (by decide) (by decide) ?_
  refine al_putr A34 (by omega) dX12_init_145 (wp_RX12_67 _ rfl) s34 rfl ?_
  refine ex_step (pc' := 149) dX12_init_148 rfl ?_
  refine ex_step (pc' := 150) (st' := [.int 2, .ref 420]) dX12_init_149 rfl ?_
  refine al_newa (kd := 1) (N := 2) A35 (by omega) dX12_init_150 za_int rfl (by decide) (by decide) (by decide) (by decide) ?_
  refine al_putr A36 (by omega) dX12_init_152 (wp_RX12_70 _ rfl) s36 rfl ?_
  refine ex_step (pc' := 156) dX12_init_155 rfl ?_
  refine ex_step (pc' := 158) (st' := [.int 12, .ref 420]) dX12_init_156 rfl ?_
  refine al_newa (kd := 1) (N := 12) A37 (by omega) dX12_init_158 za_int rfl (by decide) (by decide) (by decide) (by decide) ?_
  refine al_putr A38 (by omega) dX12_init_160 (wp_RX12_73 _ rfl) s38 rfl ?_
  refine ex_step (pc' := 164) dX12_init_163 rfl ?_
  refine ex_step (pc' := 166) (st' := [.int 12, .ref 420]) dX12_init_164 rfl ?_
  refine al_newa (kd := 1) (N := 12) A39 (by omega) dX12_init_166 za_int rfl (by decide) (by decide) (by decide) (by decide) ?_
  refine al_putr A40 (by omega) dX12_init_168 (wp_RX12_76 _ rfl) s40 rfl ?_
  refine ex_step (pc' := 172) dX12_init_171 rfl ?_
  refine ex_step (pc' := 173) (st' := [.int 2, .ref 420]) dX12_init_172 rfl ?_
  refine al_newa (kd := 1) (N := 2) A41 (by omega) dX12_init_173 za_int rfl (by decide) (by decide) (by decide) (by decide) ?_
  refine al_putr A42 (by omega) dX12_init_175 (wp_RX12_79 _ rfl) s42 rfl ?_
  refine ex_step (pc' := 179) dX12_init_178 rfl ?_
  refine ex_step (pc' := 181) (st' := [.int 49, .ref 420]) dX12_init_179 rfl ?_
  refine al_newa (kd := 1) (N := 49) A43 (by omega) dX12_init_181 za_int rfl (by decide) (by decide) (by decide) (by decide) ?_
  refine al_putr A44 (by omega) dX12_init_183 (wp_RX12_82 _ rfl) s44 rfl ?_
  refine ex_step (pc' := 187) dX12_init_186 rfl ?_
  refine ex_step (pc' := 189) (st' := [.int 49, .ref 420]) dX12_init_187 rfl ?_
  refine al_newa (kd := 1) (N := 49) A45 (by omega) dX12_init_189 za_int rfl (by decide) (by decide) (by decide) (by decide) ?_
  refine al_putr A46 (by omega) dX12_init_191 (wp_RX12_85 _ rfl) s46 rfl ?_
  refine ex_step (pc' := 195) dX12_init_194 rfl ?_
  refine ex_step (pc' := 197) (st' := [.int 49, .ref 420]) dX12_init_195 rfl ?_
  refine al_newa (kd := 1) (N := 49) A47 (by omega) dX12_init_197 za_int rfl (by decide) (by decide) (by decide) (by decide) ?_
  refine al_putr A48 (by omega) dX12_init_199 (wp_RX12_88 _ rfl) s48 rfl ?_
  refine ex_step (pc' := 203) dX12_init_202 rfl ?_
  refine ex_step (pc' := 205) (st' := [.int 16, .ref 420]) dX12_init_203 rfl ?_
  refine al_newa (kd := 1) (N := 16) A49 (by omega) dX12_init_205 za_int rfl (by decide) (by decide) (by decide) (by decide) ?_
  refine al_putr A50 (by omega) dX12_init_207 (wp_RX12_91 _ rfl) s50 rfl ?_
  refine ex_step (pc' := 211) dX12_init_210 rfl ?_
  refine ex_step (pc' := 213) (st' := [.int 16, .ref 420]) dX12_init_211 rfl ?_
  refine al_newa (kd := 1) (N := 16) A51 (by omega) dX12_init_213 za_int rfl (by decide) (by decide) (by decide) (by decide) ?_
  refine al_putr A52 (by omega) dX12_init_215 (wp_RX12_94 _ rfl) s52 rfl ?_
  refine ex_step (pc' := 219) dX12_init_218 rfl ?_
  refine ex_step (pc' := 222) (st' := [.int 260, .ref 420]) dX12_init_219 rfl ?_
  refine al_newa (kd := 4) (N := 260) A53 (by omega) dX12_init_222 za_boolean rfl (by decide) (by decide) (by decide) (by decide) ?_
  refine al_putr A54 (by omega) dX12_init_224 (wp_RX12_97 _ rfl) s54 rfl ?_
  refine ex_step (pc' := 228) dX12_init_227 rfl ?_
  refine ex_step (pc' := 231) (st' := [.int 260, .ref 420]) dX12_init_228 rfl ?_
  refine al_newa (kd := 1) (N := 260) A55 (by omega) dX12_init_231 za_int rfl (by decide) (by decide) (by decide) (by decide) ?_
  refine al_putr A56 (by omega) dX12_init_233 (wp_RX12_101 _ rfl) s56 rfl ?_
  refine ex_step (pc' := 237) dX12_init_236 rfl ?_
  refine ex_step (pc' := 240) (st' := [.int 260, .ref 420]) dX12_init_237 rfl ?_
  refine al_newa (kd := 1) (N := 260) A57 (by omega) dX12_init_240 za_int rfl (by decide) (by decide) (by decide) (by decide) ?_
  refine al_putr A58 (by omega) dX12_init_242 (wp_RX12_104 _ rfl) s58 rfl ?_
  refine ex_step (pc' := 246) dX12_init_245 rfl ?_
  refine ex_step (pc' := 249) (st' := [.int 260, .ref 420]) dX12_init_246 rfl ?_
  refine al_newa (kd := 1) (N := 260) A59 (by omega) dX12_init_249 za_int rfl (by decide) (by decide) (by decide) (by decide) ?_
  refine al_putr A60 (by omega) dX12_init_251 (wp_RX12_107 _ rfl) s60 rfl ?_
  refine ex_step (pc' := 255) dX12_init_254 rfl ?_
  refine ex_step (pc' := 258) (st' := [.int 260, .ref 420]) dX12_init_255 rfl ?_
  refine al_newa (kd := 1) (N := 260) A61 (by omega) dX12_init_258 za_int rfl (by decide) (by decide) (by decide) (by decide) ?_
  refine al_putr A62 (by omega) dX12_init_260 (wp_RX12_110 _ rfl) s62 rfl ?_
  refine ex_step (pc' := 264) dX12_init_263 rfl ?_
  refine ex_step (pc' := 267) (st' := [.int 840, .ref 420]) dX12_init_264 rfl ?_
  refine al_newa (kd := 1) (N := 840) A63 (by omega) dX12_init_267 za_int rfl (by decide) (by decide) (by decide) (by decide) ?_
  refine al_putr A64 (by omega) dX12_init_269 (wp_RX12_113 _ rfl) s64 rfl ?_
  refine ex_step (pc' := 273) dX12_init_272 rfl ?_
  refine ex_step (pc' := 276) (st' := [.int 840, .ref 420]) dX12_init_273 rfl ?_
  refine al_newa (kd := 1) (N := 840) A65 (by omega) dX12_init_276 za_int rfl (by decide) (by decide) (by decide) (by decide) ?_
  refine al_putr A66 (by omega) dX12_init_278 (wp_RX12_116 _ rfl) s66 rfl ?_
  refine ex_step (pc' := 282) dX12_init_281 rfl ?_
  refine ex_step (pc' := 284) (st' := [.int 64, .ref 420]) dX12_init_282 rfl ?_
  refine al_newa (kd := 1) (N := 64) A67 (by omega) dX12_init_284 za_int rfl (by decide) (by decide) (by decide) (by decide) ?_
  refine al_putr A68 (by omega) dX12_init_286 (wp_RX12_119 _ rfl) s68 rfl ?_
  refine ex_step (pc' := 290) dX12_init_289 rfl ?_
  refine ex_step (pc' := 292) (st' := [.int 6, .ref 420]) dX12_init_290 rfl ?_
  refine al_newa (kd := 1) (N := 6) A69 (by omega) dX12_init_292 za_int rfl (by decide) (by decide) (by decide) (by decide) ?_
  refine al_putr A70 (by omega) dX12_init_294 (wp_RX12_122 _ rfl) s70 rfl ?_
  refine ex_step (pc' := 298) dX12_init_297 rfl ?_
  refine ex_step (pc' := 301) (st' := [.int 400, .ref 420]) dX12_init_298 rfl ?_
  refine al_newa (kd := 1) (N := 400) A71 (by omega) dX12_init_301 za_int rfl (by decide) (by decide) (by decide) (by decide) ?_
  refine al_putr A72 (by omega) dX12_init_303 (wp_RX12_125 _ rfl) s72 rfl ?_
  refine ex_step (pc' := 307) dX12_init_306 rfl ?_
  refine ex_step (pc' := 310) (st' := [.int 1290, .ref 420]) dX12_init_307 rfl ?_
  refine al_newa (kd := 1) (N := 1290) A73 (by omega) dX12_init_310 za_int rfl (by decide) (by decide) (by decide) (by decide) ?_
  refine al_putr A74 (by omega) dX12_init_312 (wp_RX12_128 _ rfl) s74 rfl ?_
  refine ex_step (pc' := 316) dX12_init_315 rfl ?_
  refine ex_step (pc' := 319) (st' := [.int 1290, .ref 420]) dX12_init_316 rfl ?_
  refine al_newa (kd := 1) (N := 1290) A75 (by omega) dX12_init_319 za_int rfl (by decide) (by decide) (by decide) (by decide) ?_
  refine al_putr A76 (by omega) dX12_init_321 (wp_RX12_131 _ rfl) s76 rfl ?_
  refine ex_step (pc' := 325) dX12_init_324 rfl ?_
  refine ex_step (pc' := 327) (st' := [.int 7, .ref 420]) dX12_init_325 rfl ?_
  refine al_newa (kd := 1) (N := 7) A77 (by omega) dX12_init_327 za_int rfl (by decide) (by decide) (by decide) (by decide) ?_
  refine al_putr A78 (by omega) dX12_init_329 (wp_RX12_134 _ rfl) s78 rfl ?_
  refine ex_step (pc' := 333) dX12_init_332 rfl ?_
  refine ex_ldc dX12_init_333 zk_RX12_137 ?_
  refine al_newa (kd := 1) (N := 38700) A79 (by omega) dX12_init_335 za_int rfl (by decide) (by decide) (by decide) (by decide) ?_
  refine al_putr A80 (by omega) dX12_init_337 (wp_RX12_138 _ rfl) s80 rfl ?_
  refine ex_step (pc' := 341) dX12_init_340 rfl ?_
  refine ex_step (pc' := 343) (st' := [.int 7, .ref 420]) dX12_init_341 rfl ?_
  refine al_newa (kd := 1) (N := 7) A81 (by omega) dX12_init_343 za_int rfl (by decide) (by decide) (by decide) (by decide) ?_
  refine al_putr A82 (by omega) dX12_init_345 (wp_RX12_141 _ rfl) s82 rfl ?_
  refine ex_step (pc' := 349) dX12_init_348 rfl ?_
  refine ex_step (pc' := 352) (st' := [.int 128, .ref 420]) dX12_init_349 rfl ?_
  refine al_newa (kd := 1) (N := 128) A83 (by omega) dX12_init_352 za_int rfl (by decide) (by decide) (by decide) (by decide) ?_
  refine al_putr A84 (by omega) dX12_init_354 (wp_RX12_144 _ rfl) s84 rfl ?_
  refine ex_step (pc' := 358) dX12_init_357 rfl ?_
  refine ex_step (pc' := 360) (st' := [.int 6, .ref 420]) dX12_init_358 rfl ?_
  refine al_newa (kd := 1) (N := 6) A85 (by omega) dX12_init_360 za_int rfl (by decide) (by decide) (by decide) (by decide) ?_
  refine al_putr A86 (by omega) dX12_init_362 (wp_RX12_147 _ rfl) s86 rfl ?_
  refine ex_step (pc' := 366) dX12_init_365 rfl ?_
  refine ex_step (pc' := 368) (st' := [.int 6, .ref 420]) dX12_init_366 rfl ?_
  refine al_newa (kd := 1) (N := 6) A87 (by omega) dX12_init_368 za_int rfl (by decide) (by decide) (by decide) (by decide) ?_
  refine al_putr A88 (by omega) dX12_init_370 (wp_RX12_150 _ rfl) s88 rfl ?_
  refine ex_step (pc' := 374) dX12_init_373 rfl ?_
  refine ex_step (pc' := 376) (st' := [.int 7, .ref 420]) dX12_init_374 rfl ?_
  refine al_newa (kd := 1) (N := 7) A89 (by omega) dX12_init_376 za_int rfl (by decide) (by decide) (by decide) (by decide) ?_
  refine al_putr A90 (by omega) dX12_init_378 (wp_RX12_153 _ rfl) s90 rfl ?_
  refine ex_step (pc' := 382) dX12_init_381 rfl ?_
  refine ex_step (pc' := 385) (st' := [.int 4032, .ref 420]) dX12_init_382 rfl ?_
  refine al_newa (kd := 1) (N := 4032) A91 (by omega) dX12_init_385 za_int rfl (by decide) (by decide) (by decide) (by decide) ?_
  refine al_putr A92 (by omega) dX12_init_387 (wp_RX12_156 _ rfl) s92 rfl ?_
  refine ex_step (pc' := 391) dX12_init_390 rfl ?_
  refine ex_step (pc' := 394) (st' := [.int 196, .ref 420]) dX12_init_391 rfl ?_
  refine al_newa (kd := 1) (N := 196) A93 (by omega) dX12_init_394 za_int rfl (by decide) (by decide) (by decide) (by decide) ?_
  refine al_putr A94 (by omega) dX12_init_396 (wp_RX12_159 _ rfl) s94 rfl ?_
  refine ex_step (pc' := 400) dX12_init_399 rfl ?_
  refine ex_step (pc' := 402) (st' := [.int 12, .ref 420]) dX12_init_400 rfl ?_
  refine al_newa (kd := 1) (N := 12) A95 (by omega) dX12_init_402 za_int rfl (by decide) (by decide) (by decide) (by decide) ?_
  refine al_putr A96 (by omega) dX12_init_404 (wp_RX12_162 _ rfl) s96 rfl ?_
  refine ex_step (pc' := 408) dX12_init_407 rfl ?_
  refine ex_step (pc' := 410) (st' := [.int 12, .ref 420]) dX12_init_408 rfl ?_
  refine al_newa (kd := 1) (N := 12) A97 (by omega) dX12_init_410 za_int rfl (by decide) (by decide) (by decide) (by decide) ?_
  refine al_putr A98 (by omega) dX12_init_412 (wp_RX12_165 _ rfl) s98 rfl ?_
  refine ex_step (pc' := 416) dX12_init_415 rfl ?_
  refine ex_step (pc' := 418) (st' := [.int 12, .ref 420]) dX12_init_416 rfl ?_
  refine al_newa (kd := 4) (N := 12) A99 (by omega) dX12_init_418 za_boolean rfl (by decide) (by decide) (by decide) (by decide) ?_
  refine al_putr A100 (by omega) dX12_init_420 (wp_RX12_168 _ rfl) s100 rfl ?_
  refine ex_step (pc' := 424) dX12_init_423 rfl ?_
  refine ex_step (pc' := 425) (st' := [.int 3, .ref 420]) dX12_init_424 rfl ?_
  refine al_newa (kd := 4) (N := 3) A101 (by omega) dX12_init_425 za_boolean rfl (by decide) (by decide) (by decide) (by decide) ?_
  refine al_putr A102 (by omega) dX12_init_427 (wp_RX12_171 _ rfl) s102 rfl ?_
  refine ex_step (pc' := 431) dX12_init_430 rfl ?_
  refine ex_step (pc' := 434) (st' := [.int 3870, .ref 420]) dX12_init_431 rfl ?_
  refine al_newa (kd := 1) (N := 3870) A103 (by omega) dX12_init_434 za_int rfl (by decide) (by decide) (by decide) (by decide) ?_
  refine al_putr A104 (by omega) dX12_init_436 (wp_RX12_174 _ rfl) s104 rfl ?_
  exact ho
theorem zAsh_rev : ∀ (sh : List (Nat × Nat)) (a : Nat), zAsh sh a = sh.reverse[a]? := by
  intro sh
  induction sh with
  | nil => intro a; rfl
  | cons s t ih =>
    intro a
    show (if a = t.length then some s else zAsh t a) = _
    rw [List.reverse_cons, List.getElem?_append, List.length_reverse, ih a]
    by_cases c : a < t.length
    · rw [if_neg (by omega), if_pos c]
    · rw [if_neg c]
      by_cases e : a = t.length
      · rw [if_pos e, e, Nat.sub_self]; rfl
      · rw [if_neg e, List.getElem?_eq_none (by rw [List.length_reverse]; omega), List.getElem?_eq_none (by simp only [List.length_cons, List.length_nil]; omega)]
theorem zML_is {L a kd n : Nat} {sh : List (Nat × Nat)} {rf : List (Nat × Nat × Nat)} (hl : sh.length ≤ 1000000) (h : sh.reverse[a]? = some (kd, n)) : zis (zML L sh rf) a kd n := by
  have h1 : zAsh sh a = some (kd, n) := (zAsh_rev sh a).trans h
  have h2 := zAsh_lt h1
  exact ⟨h2, by omega, by show (zAsh sh a).getD _ = _; rw [h1]; rfl⟩
abbrev zDyC (R : List (Nat × Nat)) (rf : List (Nat × Nat × Nat)) (d : Nat) : Prop := R[d]? = some (0, 0) ∧ zAlk rf d 1 = some (d + 1) ∧ zAlk rf d 2 = some (d + 2) ∧ zAlk rf d 3 = some (d + 3) ∧ zAlk rf d 4 = some (d + 4) ∧ zAlk rf d 5 = some (d + 5) ∧ zAlk rf d 6 = some (d + 6) ∧ zAlk rf d 7 = some (d + 7) ∧ zAlk rf d 8 = some (d + 8) ∧ zAlk rf d 9 = some (d + 9) ∧ R[d + 1]? = some (1, 7) ∧ R[d + 2]? = some (1, 7) ∧ R[d + 3]? = some (1, 7) ∧ R[d + 4]? = some (1, 7) ∧ R[d + 5]? = some (1, 421) ∧ R[d + 6]? = some (1, 421) ∧ R[d + 7]? = some (1, 421) ∧ R[d + 8]? = some (1, 421) ∧ R[d + 9]? = some (1, 288)
abbrev zLwC (R : List (Nat × Nat)) (rf : List (Nat × Nat × Nat)) (l : Nat) : Prop := R[l]? = some (0, 2) ∧ zAlk rf l 1 = some (l + 1) ∧ zAlk rf l 2 = some (l + 2) ∧ zAlk rf l 3 = some (l + 3) ∧ zAlk rf l 4 = some (l + 4) ∧ R[l + 1]? = some (1, 401) ∧ R[l + 2]? = some (1, 401) ∧ R[l + 3]? = some (1, 6) ∧ R[l + 4]? = some (1, 32)
abbrev zTxA (R : List (Nat × Nat)) (rf : List (Nat × Nat × Nat)) (t : Nat) : Prop := R[t]? = some (0, 6) ∧ zAlk rf t 6 = some (t + 1) ∧ zAlk rf t 7 = some (t + 6) ∧ zAlk rf t 8 = some (t + 7) ∧ zAlk rf t 9 = some (t + 8) ∧ zAlk rf t 10 = some (t + 9) ∧ zAlk rf t 11 = some (t + 10) ∧ zAlk rf t 12 = some (t + 11) ∧ zAlk rf t 13 = some (t + 12) ∧ zAlk rf t 14 = some (t + 13) ∧ zAlk rf t 15 = some (t + 14) ∧ zAlk rf t 16 = some (t + 15) ∧ zAlk rf t 17 = some (t + 16)
abbrev zTxB (R : List (Nat × Nat)) (rf : List (Nat × Nat × Nat)) (t : Nat) : Prop := R[t + 6]? = some (1, 7) ∧ R[t + 7]? = some (1, 7) ∧ R[t + 8]? = some (1, 7) ∧ R[t + 9]? = some (1, 7) ∧ R[t + 10]? = some (1, 7) ∧ R[t + 11]? = some (1, 7) ∧ R[t + 12]? = some (1, 42) ∧ R[t + 13]? = some (1, 42) ∧ R[t + 14]? = some (1, 6) ∧ R[t + 15]? = some (1, 6) ∧ R[t + 16]? = some (2, 7)
def zDyD (R : List (Nat × Nat)) (rf : List (Nat × Nat × Nat)) (d : Nat) : Bool := decide (zDyC R rf d)
section
variable {L d l t : Nat} {sh : List (Nat × Nat)} {rf : List (Nat × Nat × Nat)}
theorem zDy_of (hl : sh.length ≤ 1000000) (h : zDyC sh.reverse rf d) : zDy (zML L sh rf) d := by
  obtain ⟨h0, h1, h2, h3, h4, h5, h6, h7, h8, h9, h10, h11, h12, h13, h14, h15, h16, h17, h18⟩ := h
  exact ⟨zML_is hl h0, h1, h2, h3, h4, h5, h6, h7, h8, h9, zML_is hl h10, zML_is hl h11, zML_is hl h12, zML_is hl h13, zML_is hl h14, zML_is hl h15, zML_is hl h16, zML_is hl h17, zML_is hl h18⟩
theorem zLw_of (hl : sh.length ≤ 1000000) (h : zLwC sh.reverse rf l) : zLw (zML L sh rf) l := by
  obtain ⟨h0, h1, h2, h3, h4, h5, h6, h7, h8⟩ := h
  exact ⟨zML_is hl h0, h1, h2, h3, h4, zML_is hl h5, zML_is hl h6, zML_is hl h7, zML_is hl h8⟩
theorem zTx_of (hl : sh.length ≤ 1000000) (hA : zTxA sh.reverse rf t) (hB : zTxB sh.reverse rf t) (hx : zLwC sh.reverse rf (t + 1)) : zTx (zML L sh rf) t := by
  obtain ⟨h0, h1, h2, h3, h4, h5, h6, h7, h8, h9, h10, h11, h12⟩ := hA
  obtain ⟨h13, h14, h15, h16, h17, h18, h19, h20, h21, h22, h23⟩ := hB
  exact ⟨zML_is hl h0, h1, h2, h3, h4, h5, h6, h7, h8, h9, h10, h11, h12, zML_is hl h13, zML_is hl h14, zML_is hl h15, zML_is hl h16, zML_is hl h17, zML_is hl h18, zML_is hl h19, zML_is hl h20, zML_is hl h21, zML_is hl h22, zML_is hl h23, zLw_of hl hx⟩
end
theorem zcSh_len : zcSh.length = 420 := by decide +kernel
theorem zcSh_d : zDyC zcSh.reverse zcRf 47 := by decide +kernel
theorem zcSh_tA : zTxA zcSh.reverse zcRf 30 := by decide +kernel
theorem zcSh_tB : zTxB zcSh.reverse zcRf 30 := by decide +kernel
theorem zcSh_tL : zLwC zcSh.reverse zcRf 31 := by decide +kernel
def zmSh : List (Nat × Nat) := zsX12 ++ (0, 12) :: zcSh
def zmRf : List (Nat × Nat × Nat) := zrX12 ++ zcRf
theorem zmSh_len : zmSh.length = 473 := by decide +kernel
theorem zmSh_su : zAsu zmSh ≤ 7302250 := by decide +kernel
theorem zm_s : ∀ e ∈ zLYs, zmSh.reverse[e.1]? = some (e.2.1, e.2.2) := by decide +kernel
theorem zm_r : ∀ e ∈ zLYr, zAlk zmRf e.1 e.2.1 = some e.2.2 := by decide +kernel
theorem zm_d : ∀ d ∈ [47, 57], zDyD zmSh.reverse zmRf d = true := by decide +kernel
theorem zm_k : ∀ i, i < 30 → zDyD zmSh.reverse zmRf (71 + 10 * i) = true ∧ zAlk zmRf 68 i = some (71 + 10 * i) := by decide +kernel
theorem zm_o : ∀ i, i < 3 → zDyD zmSh.reverse zmRf (371 + 10 * i) = true ∧ zAlk zmRf 69 i = some (371 + 10 * i) := by decide +kernel
theorem zm_t1 : zTxA zmSh.reverse zmRf 30 := by decide +kernel
theorem zm_t2 : zTxB zmSh.reverse zmRf 30 := by decide +kernel
theorem zm_t3 : zLwC zmSh.reverse zmRf 31 := by decide +kernel
theorem zm_t4 : zTxA zmSh.reverse zmRf 3 := by decide +kernel
theorem zm_t5 : zTxB zmSh.reverse zmRf 3 := by decide +kernel
theorem zm_t6 : zLwC zmSh.reverse zmRf 4 := by decide +kernel
theorem zm_t7 : zAlk zmRf 0 4 = some 30 ∧ zAlk zmRf 2 0 = some 3 := by decide +kernel
theorem zML_ro {sh : List (Nat × Nat)} {rf : List (Nat × Nat × Nat)} {L a : Nat} (h : sh.length ≤ 1000000) (ha : 1000000 ≤ a) : (zML L sh rf).2.2.1 a = (zZ0 L).2.2.1 a := by
  show (zAsh sh a).getD _ = _
  rw [zAsh_rev, List.getElem?_eq_none (by rw [List.length_reverse]; omega)]; rfl
theorem zLY_of {L : Nat} {sh : List (Nat × Nat)} {rf : List (Nat × Nat × Nat)} (hl : sh.length ≤ 1000000) (h1 : ∀ e ∈ zLYs, sh.reverse[e.1]? = some (e.2.1, e.2.2)) (h2 : ∀ e ∈ zLYr, zAlk rf e.1 e.2.1 = some e.2.2) (h3 : ∀ d ∈ [47, 57], zDyD sh.reverse rf d = true) (h4 : ∀ i, i < 30 → zDyD sh.reverse rf (71 + 10 * i) = true ∧ zAlk rf 68 i = some (71 + 10 * i)) (h5 : ∀ i, i < 3 → zDyD sh.reverse rf (371 + 10 * i) = true ∧ zAlk rf 69 i = some (371 + 10 * i)) (t1 : zTxA sh.reverse rf 30) (t2 : zTxB sh.reverse rf 30) (t3 : zLwC sh.reverse rf 31) (t4 : zTxA sh.reverse rf 3) (t5 : zTxB sh.reverse rf 3) (t6 : zLwC sh.reverse rf 4) (t7 : zAlk rf 0 4 = some 30 ∧ zAlk rf 2 0 = some 3) : zLY (zML L sh rf) 30 3 := by
  have dy : ∀ d, zDyD sh.reverse rf d = true → zDy (zML L sh rf) d := fun d h => zDy_of hl (of_decide_eq_true h)
  exact ⟨fun e he => zML_is hl (h1 e he), fun e he => h2 e he, ⟨dy _ (h3 47 (by decide)), dy _ (h3 57 (by decide)), fun i hi => ⟨dy _ (h4 i hi).1, (h4 i hi).2⟩, fun i hi => ⟨dy _ (h5 i hi).1, (h5 i hi).2⟩⟩, ⟨zTx_of hl t1 t2 t3, zTx_of hl t4 t5 t6, t7.1, t7.2, Or.inr ⟨rfl, rfl⟩⟩, ⟨by decide, by decide, zML_ro hl (by decide)⟩, ⟨by decide, by decide, zML_ro hl (by decide)⟩, (zML_rb hl).1, (zML_rb hl).2⟩
theorem zm_LY {L : Nat} : zLY (zML L zmSh zmRf) 30 3 := zLY_of (by rw [zmSh_len]; decide) zm_s zm_r zm_d zm_k zm_o zm_t1 zm_t2 zm_t3 zm_t4 zm_t5 zm_t6 zm_t7
