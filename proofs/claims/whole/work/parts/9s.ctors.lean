/-! what each constructor lays: printed by wip/whole/gctor.py -/
def zsX2 : List (Nat × Nat) := [(1, 32), (1, 6), (1, 401), (1, 401)]
def zrX2 (a : Nat) : List (Nat × Nat × Nat) := [(a, 4, a + 4), (a, 3, a + 3), (a, 2, a + 2), (a, 1, a + 1)]
set_option maxHeartbeats 4000000 in
theorem K_X2 {L d a : Nat} {sh : List (Nat × Nat)} {rf : List (Nat × Nat × Nat)} {I : zI} {J : zJ} (hA : zAl sh rf I J (a + 1)) (hs : zAsh sh a = some (0, 2)) (hb : a < 900000) : zE (d + 1) kX2_init 0 [some (.ref a)] [] (zML L sh rf) I J (none, zML L (zsX2 ++ sh) (zrX2 a ++ rf), I, J) ∧ zAl (zsX2 ++ sh) (zrX2 a ++ rf) I J (a + 5) := by
  have A0 := hA
  have s0 := hs
  have A1 := A0.new (s := (1, 401))
  have s1 := zAsh_c (x := (1, 401)) s0
  have A2 := A1.put (f := 1) (b := a + 1) (a := a) (by omega)
  have s2 := s1
  have A3 := A2.new (s := (1, 401))
  have s3 := zAsh_c (x := (1, 401)) s2
  have A4 := A3.put (f := 2) (b := a + 2) (a := a) (by omega)
  have s4 := s3
  have A5 := A4.new (s := (1, 6))
  have s5 := zAsh_c (x := (1, 6)) s4
  have A6 := A5.put (f := 3) (b := a + 3) (a := a) (by omega)
  have s6 := s5
  have A7 := A6.new (s := (1, 32))
  have s7 := zAsh_c (x := (1, 32)) s6
  have A8 := A7.put (f := 4) (b := a + 4) (a := a) (by omega)
  have s8 := s7
  refine ⟨?_, A8⟩
  refine ex_step (pc' := 1) dX2_init_0 rfl ?_
  refine ex_obj (by omega) dX2_init_1 zl_RX2_3 (Nat.le_of_ble_eq_true rfl) ?_
  refine ex_step (pc' := 5) dX2_init_4 rfl ?_
  refine ex_step (pc' := 8) (st' := [.int 401, .ref a]) dX2_init_5 rfl ?_
  refine al_newa (kd := 1) (N := 401) A0 (by omega) dX2_init_8 za_int rfl (by decide) (by decide) (by decide) (by decide) ?_
  refine al_putr A1 (by omega) dX2_init_10 (wp_RX2_9 _ rfl) s1 rfl ?_
  refine ex_step (pc' := 14) dX2_init_13 rfl ?_
  refine ex_step (pc' := 17) (st' := [.int 401, .ref a]) dX2_init_14 rfl ?_
  refine al_newa (kd := 1) (N := 401) A2 (by omega) dX2_init_17 za_int rfl (by decide) (by decide) (by decide) (by decide) ?_
  refine al_putr A3 (by omega) dX2_init_19 (wp_RX2_15 _ rfl) s3 rfl ?_
  refine ex_step (pc' := 23) dX2_init_22 rfl ?_
  refine ex_step (pc' := 25) (st' := [.int 6, .ref a]) dX2_init_23 rfl ?_
  refine al_newa (kd := 1) (N := 6) A4 (by omega) dX2_init_25 za_int rfl (by decide) (by decide) (by decide) (by decide) ?_
  refine al_putr A5 (by omega) dX2_init_27 (wp_RX2_18 _ rfl) s5 rfl ?_
  refine ex_step (pc' := 31) dX2_init_30 rfl ?_
  refine ex_step (pc' := 33) (st' := [.int 32, .ref a]) dX2_init_31 rfl ?_
  refine al_newa (kd := 1) (N := 32) A6 (by omega) dX2_init_33 za_int rfl (by decide) (by decide) (by decide) (by decide) ?_
  refine al_putr A7 (by omega) dX2_init_35 (wp_RX2_21 _ rfl) s7 rfl ?_
  exact ex_ret (v := none) ⟨dX2_init_38, rfl⟩
def zsX6 : List (Nat × Nat) := [(2, 7), (1, 6), (1, 6), (1, 42), (1, 42), (1, 7), (1, 7), (1, 7), (1, 7), (1, 7), (1, 7), (1, 32), (1, 6), (1, 401), (1, 401), (0, 2)]
def zrX6 (a : Nat) : List (Nat × Nat × Nat) := [(a, 17, a + 16), (a, 16, a + 15), (a, 15, a + 14), (a, 14, a + 13), (a, 13, a + 12), (a, 12, a + 11), (a, 11, a + 10), (a, 10, a + 9), (a, 9, a + 8), (a, 8, a + 7), (a, 7, a + 6), (a, 6, a + 1), (a + 1, 4, a + 5), (a + 1, 3, a + 4), (a + 1, 2, a + 3), (a + 1, 1, a + 2)]
set_option maxHeartbeats 4000000 in
theorem K_X6 {L d a : Nat} {sh : List (Nat × Nat)} {rf : List (Nat × Nat × Nat)} {I : zI} {J : zJ} (hA : zAl sh rf I J (a + 1)) (hs : zAsh sh a = some (0, 6)) (hb : a < 800000) : zE (d + 2) kX6_init 0 [some (.ref a)] [] (zML L sh rf) I J (none, zML L (zsX6 ++ sh) (zrX6 a ++ rf), (zu (zu (zu I a 0 6) a 1 6) a 5 (-1)), J) ∧ zAl (zsX6 ++ sh) (zrX6 a ++ rf) (zu (zu (zu I a 0 6) a 1 6) a 5 (-1)) J (a + 17) := by
  have A0 := hA
  have s0 := hs
  have w1 := zAsh_n (s := (0, 2)) A0.1
  have A1 := A0.new (s := (0, 2))
  have s1 := zAsh_c (x := (0, 2)) s0
  obtain ⟨hc1, A2⟩ := K_X2 (L := L) (d := d) (a := a + 1) A1 w1 (by omega)
  have s2 := zAsh_app s1 zsX2
  have A3 := A2.put (f := 6) (b := a + 1) (a := a) (by omega)
  have s3 := s2
  have A4 := A3.new (s := (1, 7))
  have s4 := zAsh_c (x := (1, 7)) s3
  have A5 := A4.put (f := 7) (b := a + 6) (a := a) (by omega)
  have s5 := s4
  have A6 := A5.new (s := (1, 7))
  have s6 := zAsh_c (x := (1, 7)) s5
  have A7 := A6.put (f := 8) (b := a + 7) (a := a) (by omega)
  have s7 := s6
  have A8 := A7.new (s := (1, 7))
  have s8 := zAsh_c (x := (1, 7)) s7
  have A9 := A8.put (f := 9) (b := a + 8) (a := a) (by omega)
  have s9 := s8
  have A10 := A9.new (s := (1, 7))
  have s10 := zAsh_c (x := (1, 7)) s9
  have A11 := A10.put (f := 10) (b := a + 9) (a := a) (by omega)
  have s11 := s10
  have A12 := A11.new (s := (1, 7))
  have s12 := zAsh_c (x := (1, 7)) s11
  have A13 := A12.put (f := 11) (b := a + 10) (a := a) (by omega)
  have s13 := s12
  have A14 := A13.new (s := (1, 7))
  have s14 := zAsh_c (x := (1, 7)) s13
  have A15 := A14.put (f := 12) (b := a + 11) (a := a) (by omega)
  have s15 := s14
  have A16 := A15.new (s := (1, 42))
  have s16 := zAsh_c (x := (1, 42)) s15
  have A17 := A16.put (f := 13) (b := a + 12) (a := a) (by omega)
  have s17 := s16
  have A18 := A17.new (s := (1, 42))
  have s18 := zAsh_c (x := (1, 42)) s17
  have A19 := A18.put (f := 14) (b := a + 13) (a := a) (by omega)
  have s19 := s18
  have A20 := A19.new (s := (1, 6))
  have s20 := zAsh_c (x := (1, 6)) s19
  have A21 := A20.put (f := 15) (b := a + 14) (a := a) (by omega)
  have s21 := s20
  have A22 := A21.new (s := (1, 6))
  have s22 := zAsh_c (x := (1, 6)) s21
  have A23 := A22.put (f := 16) (b := a + 15) (a := a) (by omega)
  have s23 := s22
  have A24 := A23.new (s := (2, 7))
  have s24 := zAsh_c (x := (2, 7)) s23
  have A25 := A24.put (f := 17) (b := a + 16) (a := a) (by omega)
  have s25 := s24
  have A26 := A25.puti (f := 0) (x := 6) (a := a) (by omega)
  have s26 := s25
  have A27 := A26.puti (f := 1) (x := 6) (a := a) (by omega)
  have s27 := s26
  have A28 := A27.puti (f := 5) (x := (-1)) (a := a) (by omega)
  have s28 := s27
  refine ⟨?_, A28⟩
  refine ex_step (pc' := 1) dX6_init_0 rfl ?_
  refine ex_obj (by omega) dX6_init_1 zl_RX6_3 (Nat.le_of_ble_eq_true rfl) ?_
  refine ex_step (pc' := 5) dX6_init_4 rfl ?_
  refine al_new (ci := 2) A0 (by omega) dX6_init_5 (by decide) zn_RX6_9 ?_
  refine ex_step (pc' := 9) dX6_init_8 rfl ?_
  refine ex_callI (as := []) (b := a + 1) (st := [.ref (a + 1), .ref a]) dX6_init_9 zmX2_init zl_RX6_11 ziX2_init rfl rfl rfl (Nat.le_of_ble_eq_true rfl) (Nat.le_of_ble_eq_true rfl) hc1 ?_
  refine al_putr A2 (by omega) dX6_init_12 (wp_RX6_12 _ rfl) s2 rfl ?_
  refine ex_step (pc' := 16) dX6_init_15 rfl ?_
  refine ex_step (pc' := 18) (st' := [.int 7, .ref a]) dX6_init_16 rfl ?_
  refine al_newa (kd := 1) (N := 7) A3 (by omega) dX6_init_18 za_int rfl (by decide) (by decide) (by decide) (by decide) ?_
  refine al_putr A4 (by omega) dX6_init_20 (wp_RX6_18 _ rfl) s4 rfl ?_
  refine ex_step (pc' := 24) dX6_init_23 rfl ?_
  refine ex_step (pc' := 26) (st' := [.int 7, .ref a]) dX6_init_24 rfl ?_
  refine al_newa (kd := 1) (N := 7) A5 (by omega) dX6_init_26 za_int rfl (by decide) (by decide) (by decide) (by decide) ?_
  refine al_putr A6 (by omega) dX6_init_28 (wp_RX6_22 _ rfl) s6 rfl ?_
  refine ex_step (pc' := 32) dX6_init_31 rfl ?_
  refine ex_step (pc' := 34) (st' := [.int 7, .ref a]) dX6_init_32 rfl ?_
  refine al_newa (kd := 1) (N := 7) A7 (by omega) dX6_init_34 za_int rfl (by decide) (by decide) (by decide) (by decide) ?_
  refine al_putr A8 (by omega) dX6_init_36 (wp_RX6_25 _ rfl) s8 rfl ?_
  refine ex_step (pc' := 40) dX6_init_39 rfl ?_
  refine ex_step (pc' := 42) (st' := [.int 7, .ref a]) dX6_init_40 rfl ?_
  refine al_newa (kd := 1) (N := 7) A9 (by omega) dX6_init_42 za_int rfl (by decide) (by decide) (by decide) (by decide) ?_
  refine al_putr A10 (by omega) dX6_init_44 (wp_RX6_28 _ rfl) s10 rfl ?_
  refine ex_step (pc' := 48) dX6_init_47 rfl ?_
  refine ex_step (pc' := 50) (st' := [.int 7, .ref a]) dX6_init_48 rfl ?_
  refine al_newa (kd := 1) (N := 7) A11 (by omega) dX6_init_50 za_int rfl (by decide) (by decide) (by decide) (by decide) ?_
  refine al_putr A12 (by omega) dX6_init_52 (wp_RX6_31 _ rfl) s12 rfl ?_
  refine ex_step (pc' := 56) dX6_init_55 rfl ?_
  refine ex_step (pc' := 58) (st' := [.int 7, .ref a]) dX6_init_56 rfl ?_
  refine al_newa (kd := 1) (N := 7) A13 (by omega) dX6_init_58 za_int rfl (by decide) (by decide) (by decide) (by decide) ?_
  refine al_putr A14 (by omega) dX6_init_60 (wp_RX6_34 _ rfl) s14 rfl ?_
  refine ex_step (pc' := 64) dX6_init_63 rfl ?_
  refine ex_step (pc' := 66) (st' := [.int 42, .ref a]) dX6_init_64 rfl ?_
  refine al_newa (kd := 1) (N := 42) A15 (by omega) dX6_init_66 za_int rfl (by decide) (by decide) (by decide) (by decide) ?_
  refine al_putr A16 (by omega) dX6_init_68 (wp_RX6_37 _ rfl) s16 rfl ?_
  refine ex_step (pc' := 72) dX6_init_71 rfl ?_
  refine ex_step (pc' := 74) (st' := [.int 42, .ref a]) dX6_init_72 rfl ?_
  refine al_newa (kd := 1) (N := 42) A17 (by omega) dX6_init_74 za_int rfl (by decide) (by decide) (by decide) (by decide) ?_
  refine al_putr A18 (by omega) dX6_init_76 (wp_RX6_40 _ rfl) s18 rfl ?_
  refine ex_step (pc' := 80) dX6_init_79 rfl ?_
  refine ex_step (pc' := 82) (st' := [.int 6, .ref a]) dX6_init_80 rfl ?_
  refine al_newa (kd := 1) (N := 6) A19 (by omega) dX6_init_82 za_int rfl (by decide) (by decide) (by decide) (by decide) ?_
  refine al_putr A20 (by omega) dX6_init_84 (wp_RX6_43 _ rfl) s20 rfl ?_
  refine ex_step (pc' := 88) dX6_init_87 rfl ?_
  refine ex_step (pc' := 90) (st' := [.int 6, .ref a]) dX6_init_88 rfl ?_
  refine al_newa (kd := 1) (N := 6) A21 (by omega) dX6_init_90 za_int rfl (by decide) (by decide) (by decide) (by decide) ?_
  refine al_putr A22 (by omega) dX6_init_92 (wp_RX6_46 _ rfl) s22 rfl ?_
  refine ex_step (pc' := 96) dX6_init_95 rfl ?_
  refine ex_step (pc' := 98) (st' := [.int 7, .ref a]) dX6_init_96 rfl ?_
  refine al_newa (kd := 2) (N := 7) A23 (by omega) dX6_init_98 za_long rfl (by decide) (by decide) (by decide) (by decide) ?_
  refine al_putr A24 (by omega) dX6_init_100 (wp_RX6_49 _ rfl) s24 rfl ?_
  refine ex_step (pc' := 104) dX6_init_103 rfl ?_
  refine ex_step (pc' := 106) (st' := [.int 6, .ref a]) dX6_init_104 rfl ?_
  refine al_puti A25 (by omega) dX6_init_106 (wp_RX6_53 _) s25 rfl ⟨rfl, rfl⟩ ?_
  refine ex_step (pc' := 110) dX6_init_109 rfl ?_
  refine ex_step (pc' := 112) (st' := [.int 6, .ref a]) dX6_init_110 rfl ?_
  refine al_puti A26 (by omega) dX6_init_112 (wp_RX6_57 _) s26 rfl ⟨rfl, rfl⟩ ?_
  refine ex_step (pc' := 116) dX6_init_115 rfl ?_
  refine ex_step (pc' := 117) (st' := [.int (-1), .ref a]) dX6_init_116 rfl ?_
  refine al_puti A27 (by omega) dX6_init_117 (wp_RX6_60 _) s27 rfl ⟨rfl, rfl⟩ ?_
  exact ex_ret (v := none) ⟨dX6_init_120, rfl⟩
def zsX0 : List (Nat × Nat) := [(1, 288), (1, 421), (1, 421), (1, 421), (1, 421), (1, 7), (1, 7), (1, 7), (1, 7)]
def zrX0 (a : Nat) : List (Nat × Nat × Nat) := [(a, 9, a + 9), (a, 8, a + 8), (a, 7, a + 7), (a, 6, a + 6), (a, 5, a + 5), (a, 4, a + 4), (a, 3, a + 3), (a, 2, a + 2), (a, 1, a + 1)]
set_option maxHeartbeats 4000000 in
theorem K_X0 {L d a : Nat} {sh : List (Nat × Nat)} {rf : List (Nat × Nat × Nat)} {I : zI} {J : zJ} (hA : zAl sh rf I J (a + 1)) (hs : zAsh sh a = some (0, 0)) (hb : a < 900000) : zE (d + 1) kX0_init 0 [some (.ref a)] [] (zML L sh rf) I J (none, zML L (zsX0 ++ sh) (zrX0 a ++ rf), I, J) ∧ zAl (zsX0 ++ sh) (zrX0 a ++ rf) I J (a + 10) := by
  have A0 := hA
  have s0 := hs
  have A1 := A0.new (s := (1, 7))
  have s1 := zAsh_c (x := (1, 7)) s0
  have A2 := A1.put (f := 1) (b := a + 1) (a := a) (by omega)
  have s2 := s1
  have A3 := A2.new (s := (1, 7))
  have s3 := zAsh_c (x := (1, 7)) s2
  have A4 := A3.put (f := 2) (b := a + 2) (a := a) (by omega)
  have s4 := s3
  have A5 := A4.new (s := (1, 7))
  have s5 := zAsh_c (x := (1, 7)) s4
  have A6 := A5.put (f := 3) (b := a + 3) (a := a) (by omega)
  have s6 := s5
  have A7 := A6.new (s := (1, 7))
  have s7 := zAsh_c (x := (1, 7)) s6
  have A8 := A7.put (f := 4) (b := a + 4) (a := a) (by omega)
  have s8 := s7
  have A9 := A8.new (s := (1, 421))
  have s9 := zAsh_c (x := (1, 421)) s8
  have A10 := A9.put (f := 5) (b := a + 5) (a := a) (by omega)
  have s10 := s9
  have A11 := A10.new (s := (1, 421))
  have s11 := zAsh_c (x := (1, 421)) s10
  have A12 := A11.put (f := 6) (b := a + 6) (a := a) (by omega)
  have s12 := s11
  have A13 := A12.new (s := (1, 421))
  have s13 := zAsh_c (x := (1, 421)) s12
  have A14 := A13.put (f := 7) (b := a + 7) (a := a) (by omega)
  have s14 := s13
  have A15 := A14.new (s := (1, 421))
  have s15 := zAsh_c (x := (1, 421)) s14
  have A16 := A15.put (f := 8) (b := a + 8) (a := a) (by omega)
  have s16 := s15
  have A17 := A16.new (s := (1, 288))
  have s17 := zAsh_c (x := (1, 288)) s16
  have A18 := A17.put (f := 9) (b := a + 9) (a := a) (by omega)
  have s18 := s17
  refine ⟨?_, A18⟩
  refine ex_step (pc' := 1) dX0_init_0 rfl ?_
  refine ex_obj (by omega) dX0_init_1 zl_RX0_3 (Nat.le_of_ble_eq_true rfl) ?_
  refine ex_step (pc' := 5) dX0_init_4 rfl ?_
  refine ex_step (pc' := 7) (st' := [.int 7, .ref a]) dX0_init_5 rfl ?_
  refine al_newa (kd := 1) (N := 7) A0 (by omega) dX0_init_7 za_int rfl (by decide) (by decide) (by decide) (by decide) ?_
  refine al_putr A1 (by omega) dX0_init_9 (wp_RX0_9 _ rfl) s1 rfl ?_
  refine ex_step (pc' := 13) dX0_init_12 rfl ?_
  refine ex_step (pc' := 15) (st' := [.int 7, .ref a]) dX0_init_13 rfl ?_
  refine al_newa (kd := 1) (N := 7) A2 (by omega) dX0_init_15 za_int rfl (by decide) (by decide) (by decide) (by decide) ?_
  refine al_putr A3 (by omega) dX0_init_17 (wp_RX0_15 _ rfl) s3 rfl ?_
  refine ex_step (pc' := 21) dX0_init_20 rfl ?_
  refine ex_step (pc' := 23) (st' := [.int 7, .ref a]) dX0_init_21 rfl ?_
  refine al_newa (kd := 1) (N := 7) A4 (by omega) dX0_init_23 za_int rfl (by decide) (by decide) (by decide) (by decide) ?_
  refine al_putr A5 (by omega) dX0_init_25 (wp_RX0_18 _ rfl) s5 rfl ?_
  refine ex_step (pc' := 29) dX0_init_28 rfl ?_
  refine ex_step (pc' := 31) (st' := [.int 7, .ref a]) dX0_init_29 rfl ?_
  refine al_newa (kd := 1) (N := 7) A6 (by omega) dX0_init_31 za_int rfl (by decide) (by decide) (by decide) (by decide) ?_
  refine al_putr A7 (by omega) dX0_init_33 (wp_RX0_21 _ rfl) s7 rfl ?_
  refine ex_step (pc' := 37) dX0_init_36 rfl ?_
  refine ex_step (pc' := 40) (st' := [.int 421, .ref a]) dX0_init_37 rfl ?_
  refine al_newa (kd := 1) (N := 421) A8 (by omega) dX0_init_40 za_int rfl (by decide) (by decide) (by decide) (by decide) ?_
  refine al_putr A9 (by omega) dX0_init_42 (wp_RX0_24 _ rfl) s9 rfl ?_
  refine ex_step (pc' := 46) dX0_init_45 rfl ?_
  refine ex_step (pc' := 49) (st' := [.int 421, .ref a]) dX0_init_46 rfl ?_
  refine al_newa (kd := 1) (N := 421) A10 (by omega) dX0_init_49 za_int rfl (by decide) (by decide) (by decide) (by decide) ?_
  refine al_putr A11 (by omega) dX0_init_51 (wp_RX0_27 _ rfl) s11 rfl ?_
  refine ex_step (pc' := 55) dX0_init_54 rfl ?_
  refine ex_step (pc' := 58) (st' := [.int 421, .ref a]) dX0_init_55 rfl ?_
  refine al_newa (kd := 1) (N := 421) A12 (by omega) dX0_init_58 za_int rfl (by decide) (by decide) (by decide) (by decide) ?_
  refine al_putr A13 (by omega) dX0_init_60 (wp_RX0_30 _ rfl) s13 rfl ?_
  refine ex_step (pc' := 64) dX0_init_63 rfl ?_
  refine ex_step (pc' := 67) (st' := [.int 421, .ref a]) dX0_init_64 rfl ?_
  refine al_newa (kd := 1) (N := 421) A14 (by omega) dX0_init_67 za_int rfl (by decide) (by decide) (by decide) (by decide) ?_
  refine al_putr A15 (by omega) dX0_init_69 (wp_RX0_33 _ rfl) s15 rfl ?_
  refine ex_step (pc' := 73) dX0_init_72 rfl ?_
  refine ex_step (pc' := 76) (st' := [.int 288, .ref a]) dX0_init_73 rfl ?_
  refine al_newa (kd := 1) (N := 288) A16 (by omega) dX0_init_76 za_int rfl (by decide) (by decide) (by decide) (by decide) ?_
  refine al_putr A17 (by omega) dX0_init_78 (wp_RX0_36 _ rfl) s17 rfl ?_
  exact ex_ret (v := none) ⟨dX0_init_81, rfl⟩
def zsX7 : List (Nat × Nat) := [(1, 128), (1, 144), (1, 7), (1, 7), (1, 7)]
def zrX7 (a : Nat) : List (Nat × Nat × Nat) := [(a, 5, a + 5), (a, 4, a + 4), (a, 2, a + 3), (a, 1, a + 2), (a, 0, a + 1)]
set_option maxHeartbeats 4000000 in
theorem K_X7 {L d a : Nat} {sh : List (Nat × Nat)} {rf : List (Nat × Nat × Nat)} {I : zI} {J : zJ} (hA : zAl sh rf I J (a + 1)) (hs : zAsh sh a = some (0, 7)) (hb : a < 900000) : zE (d + 1) kX7_init 0 [some (.ref a)] [] (zML L sh rf) I J (none, zML L (zsX7 ++ sh) (zrX7 a ++ rf), I, J) ∧ zAl (zsX7 ++ sh) (zrX7 a ++ rf) I J (a + 6) := by
  have A0 := hA
  have s0 := hs
  have A1 := A0.new (s := (1, 7))
  have s1 := zAsh_c (x := (1, 7)) s0
  have A2 := A1.put (f := 0) (b := a + 1) (a := a) (by omega)
  have s2 := s1
  have A3 := A2.new (s := (1, 7))
  have s3 := zAsh_c (x := (1, 7)) s2
  have A4 := A3.put (f := 1) (b := a + 2) (a := a) (by omega)
  have s4 := s3
  have A5 := A4.new (s := (1, 7))
  have s5 := zAsh_c (x := (1, 7)) s4
  have A6 := A5.put (f := 2) (b := a + 3) (a := a) (by omega)
  have s6 := s5
  have A7 := A6.new (s := (1, 144))
  have s7 := zAsh_c (x := (1, 144)) s6
  have A8 := A7.put (f := 4) (b := a + 4) (a := a) (by omega)
  have s8 := s7
  have A9 := A8.new (s := (1, 128))
  have s9 := zAsh_c (x := (1, 128)) s8
  have A10 := A9.put (f := 5) (b := a + 5) (a := a) (by omega)
  have s10 := s9
  refine ⟨?_, A10⟩
  refine ex_step (pc' := 1) dX7_init_0 rfl ?_
  refine ex_obj (by omega) dX7_init_1 zl_RX7_3 (Nat.le_of_ble_eq_true rfl) ?_
  refine ex_step (pc' := 5) dX7_init_4 rfl ?_
  refine ex_step (pc' := 7) (st' := [.int 7, .ref a]) dX7_init_5 rfl ?_
  refine al_newa (kd := 1) (N := 7) A0 (by omega) dX7_init_7 za_int rfl (by decide) (by decide) (by decide) (by decide) ?_
  refine al_putr A1 (by omega) dX7_init_9 (wp_RX7_9 _ rfl) s1 rfl ?_
  refine ex_step (pc' := 13) dX7_init_12 rfl ?_
  refine ex_step (pc' := 15) (st' := [.int 7, .ref a]) dX7_init_13 rfl ?_
  refine al_newa (kd := 1) (N := 7) A2 (by omega) dX7_init_15 za_int rfl (by decide) (by decide) (by decide) (by decide) ?_
  refine al_putr A3 (by omega) dX7_init_17 (wp_RX7_15 _ rfl) s3 rfl ?_
  refine ex_step (pc' := 21) dX7_init_20 rfl ?_
  refine ex_step (pc' := 23) (st' := [.int 7, .ref a]) dX7_init_21 rfl ?_
  refine al_newa (kd := 1) (N := 7) A4 (by omega) dX7_init_23 za_int rfl (by decide) (by decide) (by decide) (by decide) ?_
  refine al_putr A5 (by omega) dX7_init_25 (wp_RX7_18 _ rfl) s5 rfl ?_
  refine ex_step (pc' := 29) dX7_init_28 rfl ?_
  refine ex_step (pc' := 32) (st' := [.int 144, .ref a]) dX7_init_29 rfl ?_
  refine al_newa (kd := 1) (N := 144) A6 (by omega) dX7_init_32 za_int rfl (by decide) (by decide) (by decide) (by decide) ?_
  refine al_putr A7 (by omega) dX7_init_34 (wp_RX7_21 _ rfl) s7 rfl ?_
  refine ex_step (pc' := 38) dX7_init_37 rfl ?_
  refine ex_step (pc' := 41) (st' := [.int 128, .ref a]) dX7_init_38 rfl ?_
  refine al_newa (kd := 1) (N := 128) A8 (by omega) dX7_init_41 za_int rfl (by decide) (by decide) (by decide) (by decide) ?_
  refine al_putr A9 (by omega) dX7_init_43 (wp_RX7_24 _ rfl) s9 rfl ?_
  exact ex_ret (v := none) ⟨dX7_init_46, rfl⟩
def zsX10 : List (Nat × Nat) := [(1, 384), (1, 6)]
def zrX10 (a : Nat) : List (Nat × Nat × Nat) := [(a, 1, a + 2), (a, 0, a + 1)]
set_option maxHeartbeats 4000000 in
theorem K_X10 {L d a : Nat} {sh : List (Nat × Nat)} {rf : List (Nat × Nat × Nat)} {I : zI} {J : zJ} (hA : zAl sh rf I J (a + 1)) (hs : zAsh sh a = some (0, 10)) (hb : a < 900000) : zE (d + 1) kX10_init 0 [some (.ref a)] [] (zML L sh rf) I J (none, zML L (zsX10 ++ sh) (zrX10 a ++ rf), I, J) ∧ zAl (zsX10 ++ sh) (zrX10 a ++ rf) I J (a + 3) := by
  have A0 := hA
  have s0 := hs
  have A1 := A0.new (s := (1, 6))
  have s1 := zAsh_c (x := (1, 6)) s0
  have A2 := A1.put (f := 0) (b := a + 1) (a := a) (by omega)
  have s2 := s1
  have A3 := A2.new (s := (1, 384))
  have s3 := zAsh_c (x := (1, 384)) s2
  have A4 := A3.put (f := 1) (b := a + 2) (a := a) (by omega)
  have s4 := s3
  refine ⟨?_, A4⟩
  refine ex_step (pc' := 1) dX10_init_0 rfl ?_
  refine ex_obj (by omega) dX10_init_1 zl_RX10_3 (Nat.le_of_ble_eq_true rfl) ?_
  refine ex_step (pc' := 5) dX10_init_4 rfl ?_
  refine ex_step (pc' := 7) (st' := [.int 6, .ref a]) dX10_init_5 rfl ?_
  refine al_newa (kd := 1) (N := 6) A0 (by omega) dX10_init_7 za_int rfl (by decide) (by decide) (by decide) (by decide) ?_
  refine al_putr A1 (by omega) dX10_init_9 (wp_RX10_9 _ rfl) s1 rfl ?_
  refine ex_step (pc' := 13) dX10_init_12 rfl ?_
  refine ex_step (pc' := 16) (st' := [.int 384, .ref a]) dX10_init_13 rfl ?_
  refine al_newa (kd := 1) (N := 384) A2 (by omega) dX10_init_16 za_int rfl (by decide) (by decide) (by decide) (by decide) ?_
  refine al_putr A3 (by omega) dX10_init_18 (wp_RX10_15 _ rfl) s3 rfl ?_
  exact ex_ret (v := none) ⟨dX10_init_21, rfl⟩
def zsX4 : List (Nat × Nat) := [(1, 196), (1, 4032)]
def zrX4 (a : Nat) : List (Nat × Nat × Nat) := [(a, 3, a + 2), (a, 2, a + 1)]
set_option maxHeartbeats 4000000 in
theorem K_X4 {L d a : Nat} {sh : List (Nat × Nat)} {rf : List (Nat × Nat × Nat)} {I : zI} {J : zJ} (hA : zAl sh rf I J (a + 1)) (hs : zAsh sh a = some (0, 4)) (hb : a < 900000) : zE (d + 1) kX4_init 0 [some (.ref a)] [] (zML L sh rf) I J (none, zML L (zsX4 ++ sh) (zrX4 a ++ rf), I, J) ∧ zAl (zsX4 ++ sh) (zrX4 a ++ rf) I J (a + 3) := by
  have A0 := hA
  have s0 := hs
  have A1 := A0.new (s := (1, 4032))
  have s1 := zAsh_c (x := (1, 4032)) s0
  have A2 := A1.put (f := 2) (b := a + 1) (a := a) (by omega)
  have s2 := s1
  have A3 := A2.new (s := (1, 196))
  have s3 := zAsh_c (x := (1, 196)) s2
  have A4 := A3.put (f := 3) (b := a + 2) (a := a) (by omega)
  have s4 := s3
  refine ⟨?_, A4⟩
  refine ex_step (pc' := 1) dX4_init_0 rfl ?_
  refine ex_obj (by omega) dX4_init_1 zl_RX4_3 (Nat.le_of_ble_eq_true rfl) ?_
  refine ex_step (pc' := 5) dX4_init_4 rfl ?_
  refine ex_step (pc' := 8) (st' := [.int 4032, .ref a]) dX4_init_5 rfl ?_
  refine al_newa (kd := 1) (N := 4032) A0 (by omega) dX4_init_8 za_int rfl (by decide) (by decide) (by decide) (by decide) ?_
  refine al_putr A1 (by omega) dX4_init_10 (wp_RX4_9 _ rfl) s1 rfl ?_
  refine ex_step (pc' := 14) dX4_init_13 rfl ?_
  refine ex_step (pc' := 17) (st' := [.int 196, .ref a]) dX4_init_14 rfl ?_
  refine al_newa (kd := 1) (N := 196) A2 (by omega) dX4_init_17 za_int rfl (by decide) (by decide) (by decide) (by decide) ?_
  refine al_putr A3 (by omega) dX4_init_19 (wp_RX4_15 _ rfl) s3 rfl ?_
  exact ex_ret (v := none) ⟨dX4_init_22, rfl⟩
def zsX1 : List (Nat × Nat) := [(1, 7)]
def zrX1 (a : Nat) : List (Nat × Nat × Nat) := [(a, 2, a + 1)]
set_option maxHeartbeats 4000000 in
theorem K_X1 {L d a : Nat} {sh : List (Nat × Nat)} {rf : List (Nat × Nat × Nat)} {I : zI} {J : zJ} (hA : zAl sh rf I J (a + 1)) (hs : zAsh sh a = some (0, 1)) (hb : a < 900000) : zE (d + 1) kX1_init 0 [some (.ref a)] [] (zML L sh rf) I J (none, zML L (zsX1 ++ sh) (zrX1 a ++ rf), I, J) ∧ zAl (zsX1 ++ sh) (zrX1 a ++ rf) I J (a + 2) := by
  have A0 := hA
  have s0 := hs
  have A1 := A0.new (s := (1, 7))
  have s1 := zAsh_c (x := (1, 7)) s0
  have A2 := A1.put (f := 2) (b := a + 1) (a := a) (by omega)
  have s2 := s1
  refine ⟨?_, A2⟩
  refine ex_step (pc' := 1) dX1_init_0 rfl ?_
  refine ex_obj (by omega) dX1_init_1 zl_RX1_3 (Nat.le_of_ble_eq_true rfl) ?_
  refine ex_step (pc' := 5) dX1_init_4 rfl ?_
  refine ex_step (pc' := 7) (st' := [.int 7, .ref a]) dX1_init_5 rfl ?_
  refine al_newa (kd := 1) (N := 7) A0 (by omega) dX1_init_7 za_int rfl (by decide) (by decide) (by decide) (by decide) ?_
  refine al_putr A1 (by omega) dX1_init_9 (wp_RX1_9 _ rfl) s1 rfl ?_
  exact ex_ret (v := none) ⟨dX1_init_12, rfl⟩
def zsX9 : List (Nat × Nat) := [(1, 7), (1, 12), (1, 12), (1, 12)]
def zrX9 (a : Nat) : List (Nat × Nat × Nat) := [(a, 4, a + 4), (a, 3, a + 3), (a, 2, a + 2), (a, 1, a + 1)]
set_option maxHeartbeats 4000000 in
theorem K_X9 {L d a : Nat} {sh : List (Nat × Nat)} {rf : List (Nat × Nat × Nat)} {I : zI} {J : zJ} (hA : zAl sh rf I J (a + 1)) (hs : zAsh sh a = some (0, 9)) (hb : a < 900000) : zE (d + 1) kX9_init 0 [some (.ref a)] [] (zML L sh rf) I J (none, zML L (zsX9 ++ sh) (zrX9 a ++ rf), I, J) ∧ zAl (zsX9 ++ sh) (zrX9 a ++ rf) I J (a + 5) := by
  have A0 := hA
  have s0 := hs
  have A1 := A0.new (s := (1, 12))
  have s1 := zAsh_c (x := (1, 12)) s0
  have A2 := A1.put (f := 1) (b := a + 1) (a := a) (by omega)
  have s2 := s1
  have A3 := A2.new (s := (1, 12))
  have s3 := zAsh_c (x := (1, 12)) s2
  have A4 := A3.put (f := 2) (b := a + 2) (a := a) (by omega)
  have s4 := s3
  have A5 := A4.new (s := (1, 12))
  have s5 := zAsh_c (x := (1, 12)) s4
  have A6 := A5.put (f := 3) (b := a + 3) (a := a) (by omega)
  have s6 := s5
  have A7 := A6.new (s := (1, 7))
  have s7 := zAsh_c (x := (1, 7)) s6
  have A8 := A7.put (f := 4) (b := a + 4) (a := a) (by omega)
  have s8 := s7
  refine ⟨?_, A8⟩
  refine ex_step (pc' := 1) dX9_init_0 rfl ?_
  refine ex_obj (by omega) dX9_init_1 zl_RX9_3 (Nat.le_of_ble_eq_true rfl) ?_
  refine ex_step (pc' := 5) dX9_init_4 rfl ?_
  refine ex_step (pc' := 7) (st' := [.int 12, .ref a]) dX9_init_5 rfl ?_
  refine al_newa (kd := 1) (N := 12) A0 (by omega) dX9_init_7 za_int rfl (by decide) (by decide) (by decide) (by decide) ?_
  refine al_putr A1 (by omega) dX9_init_9 (wp_RX9_9 _ rfl) s1 rfl ?_
  refine ex_step (pc' := 13) dX9_init_12 rfl ?_
  refine ex_step (pc' := 15) (st' := [.int 12, .ref a]) dX9_init_13 rfl ?_
  refine al_newa (kd := 1) (N := 12) A2 (by omega) dX9_init_15 za_int rfl (by decide) (by decide) (by decide) (by decide) ?_
  refine al_putr A3 (by omega) dX9_init_17 (wp_RX9_15 _ rfl) s3 rfl ?_
  refine ex_step (pc' := 21) dX9_init_20 rfl ?_
  refine ex_step (pc' := 23) (st' := [.int 12, .ref a]) dX9_init_21 rfl ?_
  refine al_newa (kd := 1) (N := 12) A4 (by omega) dX9_init_23 za_int rfl (by decide) (by decide) (by decide) (by decide) ?_
  refine al_putr A5 (by omega) dX9_init_25 (wp_RX9_18 _ rfl) s5 rfl ?_
  refine ex_step (pc' := 29) dX9_init_28 rfl ?_
  refine ex_step (pc' := 31) (st' := [.int 7, .ref a]) dX9_init_29 rfl ?_
  refine al_newa (kd := 1) (N := 7) A6 (by omega) dX9_init_31 za_int rfl (by decide) (by decide) (by decide) (by decide) ?_
  refine al_putr A7 (by omega) dX9_init_33 (wp_RX9_21 _ rfl) s7 rfl ?_
  exact ex_ret (v := none) ⟨dX9_init_36, rfl⟩
