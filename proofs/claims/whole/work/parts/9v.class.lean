/-! the reader, the class: what they lay -/
def zsX5 : List (Nat × Nat) := [(1, 20), (1, 400), (1, 400), (1, 400), (2, 17), (2, 402), (1, 402), (1, 402), (1, 402), (0, 8), (2, 7), (1, 6), (1, 6), (1, 42), (1, 42), (1, 7), (1, 7), (1, 7), (1, 7), (1, 7), (1, 7), (1, 32), (1, 6), (1, 401), (1, 401), (0, 2), (0, 6)]
def zrX5 (a : Nat) : List (Nat × Nat × Nat) := [(a, 13, a + 27), (a, 11, a + 26), (a, 10, a + 25), (a, 9, a + 24), (a, 2, a + 18), (a + 18, 4, a + 23), (a + 18, 3, a + 22), (a + 18, 2, a + 21), (a + 18, 1, a + 20), (a + 18, 0, a + 19), (a, 0, a + 1), (a + 1, 17, a + 17), (a + 1, 16, a + 16), (a + 1, 15, a + 15), (a + 1, 14, a + 14), (a + 1, 13, a + 13), (a + 1, 12, a + 12), (a + 1, 11, a + 11), (a + 1, 10, a + 10), (a + 1, 9, a + 9), (a + 1, 8, a + 8), (a + 1, 7, a + 7), (a + 1, 6, a + 2), (a + 2, 4, a + 6), (a + 2, 3, a + 5), (a + 2, 2, a + 4), (a + 2, 1, a + 3)]
set_option maxHeartbeats 4000000 in
theorem K_X5 {d L a : Nat} {sh : List (Nat × Nat)} {rf : List (Nat × Nat × Nat)} {I : zI} {J : zJ} (hA : zAl sh rf I J (a + 1)) (hs : zAsh sh a = some (0, 5)) (hb : a < 600000) (hI : ∀ j, j < 80 → I 1000005 j = (zbytS.getD 0 []).getD j 0) : ∃ J1, zE (d + 8) kX5_init 0 [some (.ref a)] [] (zML L sh rf) I J (none, zML L (zsX5 ++ sh) (zrX5 a ++ rf), (zu (zu (zu I (a + 1) 0 6) (a + 1) 1 6) (a + 1) 5 (-1)), J1) ∧ zAl (zsX5 ++ sh) (zrX5 a ++ rf) (zu (zu (zu I (a + 1) 0 6) (a + 1) 1 6) (a + 1) 5 (-1)) J1 (a + 28) ∧ (∀ k, k < 17 → J1 (a + 23) k = lN (zk32 k)) ∧ ∀ b, b ≠ a + 23 → J1 b = J b := by
  have A0 := hA
  have s0 := hs
  have w1 := zAsh_n (s := (0, 6)) A0.1
  have A1 := A0.new (s := (0, 6))
  have s1 := zAsh_c (x := (0, 6)) s0
  obtain ⟨hc1, A2⟩ := K_X6 (L := L) (d := d + 5) (a := a + 1) A1 w1 (by omega)
  have s2 := zAsh_app s1 zsX6
  have A3 := A2.put (f := 0) (b := a + 1) (a := a) (by omega)
  have s3 := s2
  have w18 := zAsh_n (s := (0, 8)) A3.1
  have A4 := A3.new (s := (0, 8))
  have s4 := zAsh_c (x := (0, 8)) s3
  have hI4 : ∀ j, j < 80 → (zu (zu (zu I (a + 1) 0 6) (a + 1) 1 6) (a + 1) 5 (-1)) 1000005 j = (zbytS.getD 0 []).getD j 0 := fun j hj => by (rw [zu_ne (by omega)]; rw [zu_ne (by omega)]; rw [zu_ne (by omega)]); exact hI j hj
  obtain ⟨J1, hc4, A5, j1, j2⟩ := K_X8 (L := L) (d := d) (a := a + 18) A4 w18 (by omega) hI4
  have s5 := zAsh_app s4 zsX8
  have A6 := A5.put (f := 2) (b := a + 18) (a := a) (by omega)
  have s6 := s5
  have A7 := A6.new (s := (1, 400))
  have s7 := zAsh_c (x := (1, 400)) s6
  have A8 := A7.put (f := 9) (b := a + 24) (a := a) (by omega)
  have s8 := s7
  have A9 := A8.new (s := (1, 400))
  have s9 := zAsh_c (x := (1, 400)) s8
  have A10 := A9.put (f := 10) (b := a + 25) (a := a) (by omega)
  have s10 := s9
  have A11 := A10.new (s := (1, 400))
  have s11 := zAsh_c (x := (1, 400)) s10
  have A12 := A11.put (f := 11) (b := a + 26) (a := a) (by omega)
  have s12 := s11
  have A13 := A12.new (s := (1, 20))
  have s13 := zAsh_c (x := (1, 20)) s12
  have A14 := A13.put (f := 13) (b := a + 27) (a := a) (by omega)
  have s14 := s13
  refine ⟨J1, ?_, A14, j1, j2⟩
  refine ex_step (pc' := 1) dX5_init_0 rfl ?_
  refine ex_obj (by omega) dX5_init_1 zl_RX5_5 (Nat.le_of_ble_eq_true rfl) ?_
  refine ex_step (pc' := 5) dX5_init_4 rfl ?_
  refine al_new (ci := 6) A0 (by omega) dX5_init_5 (by decide) zn_RX5_11 ?_
  refine ex_step (pc' := 9) dX5_init_8 rfl ?_
  refine ex_callI (as := []) (b := a + 1) (st := [.ref (a + 1), .ref a]) dX5_init_9 zmX6_init zl_RX5_13 ziX6_init rfl rfl rfl (Nat.le_of_ble_eq_true rfl) (Nat.le_of_ble_eq_true rfl) hc1 ?_
  refine al_putr A2 (by omega) dX5_init_12 (wp_RX5_14 _) s2 rfl ?_
  refine ex_step (pc' := 16) dX5_init_15 rfl ?_
  refine al_new (ci := 8) A3 (by omega) dX5_init_16 (by decide) zn_RX5_18 ?_
  refine ex_step (pc' := 20) dX5_init_19 rfl ?_
  refine ex_callI (as := []) (b := a + 18) (st := [.ref (a + 18), .ref a]) dX5_init_20 zmX8_init zl_RX5_20 ziX8_init rfl rfl rfl (Nat.le_of_ble_eq_true rfl) (Nat.le_of_ble_eq_true rfl) hc4 ?_
  refine al_putr A5 (by omega) dX5_init_23 (wp_RX5_21 _ rfl) s5 rfl ?_
  refine ex_step (pc' := 27) dX5_init_26 rfl ?_
  refine ex_step (pc' := 30) (st' := [.int 400, .ref a]) dX5_init_27 rfl ?_
  refine al_newa (kd := 1) (N := 400) A6 (by omega) dX5_init_30 za_int rfl (by decide) (by decide) (by decide) (by decide) ?_
  refine al_putr A7 (by omega) dX5_init_32 (wp_RX5_25 _ rfl) s7 rfl ?_
  refine ex_step (pc' := 36) dX5_init_35 rfl ?_
  refine ex_step (pc' := 39) (st' := [.int 400, .ref a]) dX5_init_36 rfl ?_
  refine al_newa (kd := 1) (N := 400) A8 (by omega) dX5_init_39 za_int rfl (by decide) (by decide) (by decide) (by decide) ?_
  refine al_putr A9 (by omega) dX5_init_41 (wp_RX5_29 _ rfl) s9 rfl ?_
  refine ex_step (pc' := 45) dX5_init_44 rfl ?_
  refine ex_step (pc' := 48) (st' := [.int 400, .ref a]) dX5_init_45 rfl ?_
  refine al_newa (kd := 1) (N := 400) A10 (by omega) dX5_init_48 za_int rfl (by decide) (by decide) (by decide) (by decide) ?_
  refine al_putr A11 (by omega) dX5_init_50 (wp_RX5_32 _ rfl) s11 rfl ?_
  refine ex_step (pc' := 54) dX5_init_53 rfl ?_
  refine ex_step (pc' := 56) (st' := [.int 20, .ref a]) dX5_init_54 rfl ?_
  refine al_newa (kd := 1) (N := 20) A12 (by omega) dX5_init_56 za_int rfl (by decide) (by decide) (by decide) (by decide) ?_
  refine al_putr A13 (by omega) dX5_init_58 (wp_RX5_35 _ rfl) s13 rfl ?_
  exact ex_ret (v := none) ⟨dX5_init_61, rfl⟩
def zcSh : List (Nat × Nat) := zsX9 ++ (0, 9) :: zsX1 ++ (0, 1) :: zsX4 ++ (0, 4) :: zsX10 ++ (0, 10) :: zsX7 ++ (0, 7) :: zpS 3 (zpS 30 ((1, 3) :: (5, 3) :: (5, 30) :: (0, 3) :: zsX0 ++ (0, 0) :: zsX0 ++ (0, 0) :: zsX6 ++ (0, 6) :: zsX5 ++ (0, 5) :: (1, 2000) :: [(0, 11)]))
def zcRf : List (Nat × Nat × Nat) := (0, 12, 415) :: zrX9 415 ++ (0, 11, 413) :: zrX1 413 ++ (0, 10, 410) :: zrX4 410 ++ (0, 9, 407) :: zrX10 407 ++ (0, 8, 401) :: zrX7 401 ++ (0, 7, 67) :: zpR 69 371 3 (zpR 68 71 30 ((67, 3, 70) :: (67, 2, 69) :: (67, 1, 68) :: (0, 6, 57) :: zrX0 57 ++ (0, 5, 47) :: zrX0 47 ++ (0, 4, 30) :: zrX6 30 ++ (0, 3, 2) :: zrX5 2 ++ (0, 0, 1) :: []))
/-- the ints that the class's constructor puts -/
def zcI (I : zI) : zI := (zu (zu (zu (zu (zu (zu (zu I 0 2 (-1)) 3 0 6) 3 1 6) 3 5 (-1)) 30 0 6) 30 1 6) 30 5 (-1))
theorem zcRf_5 : zAlk zcRf 0 5 = some 47 := by decide +kernel
theorem zcRf_4 : zAlk zcRf 0 4 = some 30 := by decide +kernel
set_option maxHeartbeats 4000000 in
theorem K_X11 {L : Nat} {I : zI} {J : zJ} (hA : zAl [(0, 11)] [] I J 1) (hI : ∀ j, j < 80 → I 1000005 j = (zbytS.getD 0 []).getD j 0) : ∃ J1, zAl zcSh zcRf (zcI I) J1 420 ∧ (∀ k, k < 17 → J1 25 k = lN (zk32 k)) ∧ (∀ b, b ≠ 25 → J1 b = J b) ∧ zAsh zcSh 0 = some (0, 11) ∧ ∀ o, zE 10 kX11_init 128 [some (.ref 0)] [] (zML L zcSh zcRf) (zcI I) J1 o → zE 10 kX11_init 0 [some (.ref 0)] [] (zML L [(0, 11)] []) I J o := by
  have hs : zAsh [(0, 11)] 0 = some (0, 11) := rfl
  have A0 := hA
  have s0 := hs
  have A1 := A0.new (s := (1, 2000))
  have s1 := zAsh_c (x := (1, 2000)) s0
  have A2 := A1.put (f := 0) (b := 1) (a := 0) (by omega)
  have s2 := s1
  have A3 := A2.puti (f := 2) (x := (-1)) (a := 0) (by omega)
  have s3 := s2
  have w2 := zAsh_n (s := (0, 5)) A3.1
  have A4 := A3.new (s := (0, 5))
  have s4 := zAsh_c (x := (0, 5)) s3
  have hI4 : ∀ j, j < 80 → (zu I 0 2 (-1)) 1000005 j = (zbytS.getD 0 []).getD j 0 := fun j hj => by (rw [zu_ne (by omega)]); exact hI j hj
  obtain ⟨J1, hc4, A5, j1, j2⟩ := K_X5 (L := L) (d := 1) (a := 2) A4 w2 (by omega) hI4
  have s5 := zAsh_app s4 zsX5
  have A6 := A5.put (f := 3) (b := 2) (a := 0) (by omega)
  have s6 := s5
  have w30 := zAsh_n (s := (0, 6)) A6.1
  have A7 := A6.new (s := (0, 6))
  have s7 := zAsh_c (x := (0, 6)) s6
  obtain ⟨hc7, A8⟩ := K_X6 (L := L) (d := 7) (a := 30) A7 w30 (by omega)
  have s8 := zAsh_app s7 zsX6
  have A9 := A8.put (f := 4) (b := 30) (a := 0) (by omega)
  have s9 := s8
  have w47 := zAsh_n (s := (0, 0)) A9.1
  have A10 := A9.new (s := (0, 0))
  have s10 := zAsh_c (x := (0, 0)) s9
  obtain ⟨hc10, A11⟩ := K_X0 (L := L) (d := 8) (a := 47) A10 w47 (by omega)
  have s11 := zAsh_app s10 zsX0
  have A12 := A11.put (f := 5) (b := 47) (a := 0) (by omega)
  have s12 := s11
  have w57 := zAsh_n (s := (0, 0)) A12.1
  have A13 := A12.new (s := (0, 0))
  have s13 := zAsh_c (x := (0, 0)) s12
  obtain ⟨hc13, A14⟩ := K_X0 (L := L) (d := 8) (a := 57) A13 w57 (by omega)
  have s14 := zAsh_app s13 zsX0
  have A15 := A14.put (f := 6) (b := 57) (a := 0) (by omega)
  have s15 := s14
  have w67 := zAsh_n (s := (0, 3)) A15.1
  have A16 := A15.new (s := (0, 3))
  have s16 := zAsh_c (x := (0, 3)) s15
  obtain ⟨hc16, A17⟩ := K_X3 (L := L) (d := 7) A16 w67
  have s17 := zpS_sh (zpS_sh (zAsh_app s16 [(1, 3), (5, 3), (5, 30)]) 30) 3
  have A18 := A17.put (f := 7) (b := 67) (a := 0) (by omega)
  have s18 := s17
  have w401 := zAsh_n (s := (0, 7)) A18.1
  have A19 := A18.new (s := (0, 7))
  have s19 := zAsh_c (x := (0, 7)) s18
  obtain ⟨hc19, A20⟩ := K_X7 (L := L) (d := 8) (a := 401) A19 w401 (by omega)
  have s20 := zAsh_app s19 zsX7
  have A21 := A20.put (f := 8) (b := 401) (a := 0) (by omega)
  have s21 := s20
  have w407 := zAsh_n (s := (0, 10)) A21.1
  have A22 := A21.new (s := (0, 10))
  have s22 := zAsh_c (x := (0, 10)) s21
  obtain ⟨hc22, A23⟩ := K_X10 (L := L) (d := 8) (a := 407) A22 w407 (by omega)
  have s23 := zAsh_app s22 zsX10
  have A24 := A23.put (f := 9) (b := 407) (a := 0) (by omega)
  have s24 := s23
  have w410 := zAsh_n (s := (0, 4)) A24.1
  have A25 := A24.new (s := (0, 4))
  have s25 := zAsh_c (x := (0, 4)) s24
  obtain ⟨hc25, A26⟩ := K_X4 (L := L) (d := 8) (a := 410) A25 w410 (by omega)
  have s26 := zAsh_app s25 zsX4
  have A27 := A26.put (f := 10) (b := 410) (a := 0) (by omega)
  have s27 := s26
  have w413 := zAsh_n (s := (0, 1)) A27.1
  have A28 := A27.new (s := (0, 1))
  have s28 := zAsh_c (x := (0, 1)) s27
  obtain ⟨hc28, A29⟩ := K_X1 (L := L) (d := 8) (a := 413) A28 w413 (by omega)
  have s29 := zAsh_app s28 zsX1
  have A30 := A29.put (f := 11) (b := 413) (a := 0) (by omega)
  have s30 := s29
  have w415 := zAsh_n (s := (0, 9)) A30.1
  have A31 := A30.new (s := (0, 9))
  have s31 := zAsh_c (x := (0, 9)) s30
  obtain ⟨hc31, A32⟩ := K_X9 (L := L) (d := 8) (a := 415) A31 w415 (by omega)
  have s32 := zAsh_app s31 zsX9
  have A33 := A32.put (f := 12) (b := 415) (a := 0) (by omega)
  have s33 := s32
  refine ⟨J1, A33, j1, j2, s33, fun o ho => ?_⟩
  refine ex_step (pc' := 1) dX11_init_0 rfl ?_
  refine ex_obj (by omega) dX11_init_1 zl_RX11_3 (Nat.le_of_ble_eq_true rfl) ?_
  refine ex_step (pc' := 5) dX11_init_4 rfl ?_
  refine ex_step (pc' := 8) (st' := [.int 2000, .ref 0]) dX11_init_5 rfl ?_
  refine al_newa (kd := 1) (N := 2000) A0 (by omega) dX11_init_8 za_int rfl (by decide) (by decide) (by decide) (by decide) ?_
  refine al_putr A1 (by omega) dX11_init_10 (wp_RX11_9 _ rfl) s1 rfl ?_
  refine ex_step (pc' := 14) dX11_init_13 rfl ?_
  refine ex_step (pc' := 15) (st' := [.int (-1), .ref 0]) dX11_init_14 rfl ?_
  refine al_puti A2 (by omega) dX11_init_15 (wp_RX11_13 _) s2 rfl ⟨rfl, rfl⟩ ?_
  refine ex_step (pc' := 19) dX11_init_18 rfl ?_
  refine al_new (ci := 5) A3 (by omega) dX11_init_19 (by decide) zn_RX11_17 ?_
  refine ex_step (pc' := 23) dX11_init_22 rfl ?_
  refine ex_callI (as := []) (b := 2) (st := [.ref 2, .ref 0]) dX11_init_23 zmX5_init zl_RX11_19 ziX5_init rfl rfl rfl (Nat.le_of_ble_eq_true rfl) (Nat.le_of_ble_eq_true rfl) hc4 ?_
  refine al_putr A5 (by omega) dX11_init_26 (wp_RX11_20 _ rfl) s5 rfl ?_
  refine ex_step (pc' := 30) dX11_init_29 rfl ?_
  refine al_new (ci := 6) A6 (by omega) dX11_init_30 (by decide) zn_RX11_24 ?_
  refine ex_step (pc' := 34) dX11_init_33 rfl ?_
  refine ex_callI (as := []) (b := 30) (st := [.ref 30, .ref 0]) dX11_init_34 zmX6_init zl_RX11_26 ziX6_init rfl rfl rfl (Nat.le_of_ble_eq_true rfl) (Nat.le_of_ble_eq_true rfl) hc7 ?_
  refine al_putr A8 (by omega) dX11_init_37 (wp_RX11_27 _) s8 rfl ?_
  refine ex_step (pc' := 41) dX11_init_40 rfl ?_
  refine al_new (ci := 0) A9 (by omega) dX11_init_41 (by decide) zn_RX11_31 ?_
  refine ex_step (pc' := 45) dX11_init_44 rfl ?_
  refine ex_callI (as := []) (b := 47) (st := [.ref 47, .ref 0]) dX11_init_45 zmX0_init zl_RX11_33 ziX0_init rfl rfl rfl (Nat.le_of_ble_eq_true rfl) (Nat.le_of_ble_eq_true rfl) hc10 ?_
  refine al_putr A11 (by omega) dX11_init_48 (wp_RX11_34 _ rfl) s11 rfl ?_
  refine ex_step (pc' := 52) dX11_init_51 rfl ?_
  refine al_new (ci := 0) A12 (by omega) dX11_init_52 (by decide) zn_RX11_31 ?_
  refine ex_step (pc' := 56) dX11_init_55 rfl ?_
  refine ex_callI (as := []) (b := 57) (st := [.ref 57, .ref 0]) dX11_init_56 zmX0_init zl_RX11_33 ziX0_init rfl rfl rfl (Nat.le_of_ble_eq_true rfl) (Nat.le_of_ble_eq_true rfl) hc13 ?_
  refine al_putr A14 (by omega) dX11_init_59 (wp_RX11_38 _ rfl) s14 rfl ?_
  refine ex_step (pc' := 63) dX11_init_62 rfl ?_
  refine al_new (ci := 3) A15 (by omega) dX11_init_63 (by decide) zn_RX11_41 ?_
  refine ex_step (pc' := 67) dX11_init_66 rfl ?_
  refine ex_callI (as := []) (b := 67) (st := [.ref 67, .ref 0]) dX11_init_67 zmX3_init zl_RX11_43 ziX3_init rfl rfl rfl (Nat.le_of_ble_eq_true rfl) (Nat.le_of_ble_eq_true rfl) hc16 ?_
  refine al_putr A17 (by omega) dX11_init_70 (wp_RX11_44 _ rfl) s17 rfl ?_
  refine ex_step (pc' := 74) dX11_init_73 rfl ?_
  refine al_new (ci := 7) A18 (by omega) dX11_init_74 (by decide) zn_RX11_48 ?_
  refine ex_step (pc' := 78) dX11_init_77 rfl ?_
  refine ex_callI (as := []) (b := 401) (st := [.ref 401, .ref 0]) dX11_init_78 zmX7_init zl_RX11_50 ziX7_init rfl rfl rfl (Nat.le_of_ble_eq_true rfl) (Nat.le_of_ble_eq_true rfl) hc19 ?_
  refine al_putr A20 (by omega) dX11_init_81 (wp_RX11_51 _ rfl) s20 rfl ?_
  refine ex_step (pc' := 85) dX11_init_84 rfl ?_
  refine al_new (ci := 10) A21 (by omega) dX11_init_85 (by decide) zn_RX11_55 ?_
  refine ex_step (pc' := 89) dX11_init_88 rfl ?_
  refine ex_callI (as := []) (b := 407) (st := [.ref 407, .ref 0]) dX11_init_89 zmX10_init zl_RX11_57 ziX10_init rfl rfl rfl (Nat.le_of_ble_eq_true rfl) (Nat.le_of_ble_eq_true rfl) hc22 ?_
  refine al_putr A23 (by omega) dX11_init_92 (wp_RX11_58 _ rfl) s23 rfl ?_
  refine ex_step (pc' := 96) dX11_init_95 rfl ?_
  refine al_new (ci := 4) A24 (by omega) dX11_init_96 (by decide) zn_RX11_62 ?_
  refine ex_step (pc' := 100) dX11_init_99 rfl ?_
  refine ex_callI (as := []) (b := 410) (st := [.ref 410, .ref 0]) dX11_init_100 zmX4_init zl_RX11_64 ziX4_init rfl rfl rfl (Nat.le_of_ble_eq_true rfl) (Nat.le_of_ble_eq_true rfl) hc25 ?_
  refine al_putr A26 (by omega) dX11_init_103 (wp_RX11_65 _ rfl) s26 rfl ?_
  refine ex_step (pc' := 107) dX11_init_106 rfl ?_
  refine al_new (ci := 1) A27 (by omega) dX11_init_107 (by decide) zn_RX11_69 ?_
  refine ex_step (pc' := 111) dX11_init_110 rfl ?_
  refine ex_callI (as := []) (b := 413) (st := [.ref 413, .ref 0]) dX11_init_111 zmX1_init zl_RX11_71 ziX1_init rfl rfl rfl (Nat.le_of_ble_eq_true rfl) (Nat.le_of_ble_eq_true rfl) hc28 ?_
  refine al_putr A29 (by omega) dX11_init_114 (wp_RX11_72 _ rfl) s29 rfl ?_
  refine ex_step (pc' := 118) dX11_init_117 rfl ?_
  refine al_new (ci := 9) A30 (by omega) dX11_init_118 (by decide) zn_RX11_76 ?_
  refine ex_step (pc' := 122) dX11_init_121 rfl ?_
  refine ex_callI (as := []) (b := 415) (st := [.ref 415, .ref 0]) dX11_init_122 zmX9_init zl_RX11_78 ziX9_init rfl rfl rfl (Nat.le_of_ble_eq_true rfl) (Nat.le_of_ble_eq_true rfl) hc31 ?_
  refine al_putr A32 (by omega) dX11_init_125 (wp_RX11_79 _ rfl) s32 rfl ?_
  exact ho
